-- long elements, a cluster's time, how many packets a block takes
def GE (c c' : Option (List Int32)) : Prop := (c = none → c' = none) ∧ ∀ k : Nat, (∀ L, c = some L → k ≤ L.length) → ∀ L', c' = some L' → k ≤ L'.length
theorem GE_refl (c : Option (List Int32)) : GE c c := ⟨fun h => h, fun k h => h⟩
theorem GE_trans {a b c : Option (List Int32)} (h1 : GE a b) (h2 : GE b c) : GE a c := ⟨fun h => h2.1 (h1.1 h), fun k h => h2.2 k (h1.2 k h)⟩
theorem GE_app (cap : Nat) (c : Option (List Int32)) (X : List Int32) : GE c (app cap c X) := by
  refine ⟨fun h => by rw [h]; rfl, fun k h L' hL' => ?_⟩
  cases c with
  | none => rw [app_none] at hL'; cases hL'
  | some L =>
    have := h L rfl
    rw [app_some] at hL'
    by_cases q : L.length + X.length ≤ cap
    · rw [if_pos q] at hL'
      rw [← Option.some.inj hL', List.length_append]
      omega
    · rw [if_neg q] at hL'; cases hL'
def POS (pos : Int32) (c : Option (List Int32)) : Prop := pos = -1 ∨ ∃ k : Nat, pos = nI k ∧ 4 ≤ k ∧ k ≤ 6000 ∧ ∀ L, c = some L → k ≤ L.length
theorem POS_GE {pos : Int32} {c c' : Option (List Int32)} (h : POS pos c) (g : GE c c') : POS pos c' := by
  rcases h with h | ⟨k, h1, h2, h3, h4⟩
  · exact Or.inl h
  · exact Or.inr ⟨k, h1, h2, h3, g.2 k h4⟩
def blg (u : Int32) : List Int32 := if u = 0 then hiL 0 4 else [(255 : Int32) &&& 255]
theorem begin_c (F : Nat) (hF : 6000 < F) (u id : Int32) {len ov : Int32} {w : Nat → Int32} {c : Option (List Int32)} (h : CR 6000 0 len ov (rb w) c) : ∃ (len' ov' : Int32) (w' : Nat → Int32), fX2_beginLongElement F u 6000 len ov 1501 w id = some (len', len', ov', w') ∧ CR 6000 0 len' ov' (rb w') (app 6000 (app 6000 c (hiL id.toInt64 4)) (blg u)) := by
  obtain ⟨r1, a1, c1⟩ := hi4 F hF id.toInt64 h
  unfold fX2_beginLongElement fX2_beginLongElement_b39 blg
  rw [a1, Option.bind_some]
  by_cases q : u = 0
  · obtain ⟨r2, a2, c2⟩ := hi4 F hF 0 c1
    rw [if_pos q, if_pos q, a2, Option.bind_some]
    exact ⟨_, _, _, rfl, c2⟩
  · obtain ⟨r2, a2, c2⟩ := ad1 F 255 c1
    rw [if_neg q, if_neg q, a2, Option.bind_some]
    exact ⟨_, _, _, rfl, c2⟩
theorem later_r (F : Nat) (hF : 6000 < F) (u : Int32) {md mf : Int32} {dr : Nat → Int32} {c : Option (List Int32)} (h : CR 6000 0 md mf (fun k => dr k &&& 255) c) : ∃ (md' mf' : Int32) (dr' : Nat → Int32), fX10_later F md mf dr u = some (md', md', mf', dr') ∧ CR 6000 0 md' mf' (fun k => dr' k &&& 255) (app 6000 c (blg u)) := by
  unfold fX10_later fX10_later_b20 blg
  by_cases q : u = 0
  · obtain ⟨r2, a2, c2⟩ := phi4 F hF 0 h
    rw [if_pos q, if_pos q, a2, Option.bind_some]
    exact ⟨_, _, _, rfl, c2⟩
  · obtain ⟨r2, a2, c2⟩ := put_CR F h 255
    rw [if_neg q, if_neg q, a2, Option.bind_some]
    exact ⟨_, _, _, rfl, c2⟩
theorem CR_same {len ov md mf : Int32} {w dr : Nat → Int32} {c : Option (List Int32)} (h1 : CR 6000 0 len ov (rb w) c) (h2 : CR 6000 0 md mf (fun k => dr k &&& 255) c) : len = md := by
  cases c with
  | none => rw [h1.1, h2.1]
  | some L => rw [h1.2.1, h2.2.1]
theorem c28 (F : Nat) {kl k : Nat} (hk4 : 4 ≤ k) (hkl : k ≤ kl) (hl : kl ≤ 6000) (v : Int32) : ∀ (m n i : Nat) (w : Nat → Int32), i + m = 4 → m < n → ∃ w', fX2_endLongElement_b28 F (nI kl) 1501 (nI k) n (nI i) v w = some w' ∧ ∀ j, rb w' j = if k - 4 ≤ j ∧ j + i < k then hb v.toInt64 (k - 1 - j) else rb w j := by
  intro m
  induction m with
  | zero =>
    intro n i w h1 h2
    obtain ⟨n', rfl⟩ : ∃ n', n = n' + 1 := ⟨n - 1, by omega⟩
    refine ⟨w, ?_, fun j => by rw [if_neg (by omega)]⟩
    rw [fX2_endLongElement_b28, i4, if_pos (nI_le (by omega) (by omega))]
  | succ m ih =>
    intro n i w h1 h2
    obtain ⟨n', rfl⟩ : ∃ n', n = n' + 1 := ⟨n - 1, by omega⟩
    have hp : nI k - 1 - nI i = nI (k - 1 - i) := by
      obtain ⟨q, rfl⟩ : ∃ q, k = q + 1 := ⟨k - 1, by omega⟩
      rw [nI_pred, pk_sub (by omega)]
      rfl
    obtain ⟨w', d1, d2⟩ := ih n' (i + 1) (wset w (k - 1 - i) (ushr32 v (nI (8 * i)))) (by omega) (by omega)
    refine ⟨w', ?_, fun j => ?_⟩
    · rw [fX2_endLongElement_b28, i4, if_neg (nI_ge (by omega) (by omega)), hp, m8, change_in F _ (by omega) (by omega) (by omega) (by omega), Option.bind_some, nm_eq, nI_1]
      exact d1
    · rw [d2 j, rb_wset]
      by_cases c1 : k - 4 ≤ j ∧ j + (i + 1) < k
      · rw [if_pos c1, if_pos (by omega)]
      · rw [if_neg c1]
        by_cases c2 : j = k - 1 - i
        · rw [if_pos c2, if_pos (by omega), hb_u32 _ (by omega), show k - 1 - j = i by omega]
        · rw [if_neg c2, if_neg (by omega)]
theorem r26 (F : Nat) {k : Nat} (hk4 : 4 ≤ k) (hl : k ≤ 6000) (v : Int32) : ∀ (m n i : Nat) (f : Nat → Int32), i + m = 4 → m < n → ∃ g, fX10_tell_b26 F (nI k) n (nI i) v f = some g ∧ ∀ j, g j &&& 255 = if k - 4 + i ≤ j ∧ j < k then hb v.toInt64 (k - 1 - j) else f j &&& 255 := by
  intro m
  induction m with
  | zero =>
    intro n i f h1 h2
    obtain ⟨n', rfl⟩ : ∃ n', n = n' + 1 := ⟨n - 1, by omega⟩
    refine ⟨f, ?_, fun j => by rw [if_neg (by omega)]⟩
    rw [fX10_tell_b26, i4, if_pos (nI_le (by omega) (by omega))]
  | succ m ih =>
    intro n i f h1 h2
    obtain ⟨n', rfl⟩ : ∃ n', n = n' + 1 := ⟨n - 1, by omega⟩
    have hp : nI k - nI 4 + nI i = nI (k - 4 + i) := by rw [pk_sub hk4, nI_add]
    have hs : (24 : Int32) - (8 : Int32) * nI i = nI (8 * (3 - i)) := by rw [m8, i24, pk_sub (by omega), show 24 - 8 * i = 8 * (3 - i) by omega]
    obtain ⟨g, d1, d2⟩ := ih n' (i + 1) (upd f (k - 4 + i) (((v >>> (nI (8 * (3 - i)) &&& 31)).toInt8.toInt32).toInt8.toInt32)) (by omega) (by omega)
    refine ⟨g, ?_, fun j => ?_⟩
    · rw [fX10_tell_b26, hs, i4, if_neg (nI_ge (by omega) (by omega)), hp, if_pos (gin_nI (by omega) (by omega)), nm_eq, nm_eq, nI_clamp (by omega), nI_1]
      exact d1
    · rw [d2 j, upd_app]
      by_cases c1 : k - 4 + (i + 1) ≤ j ∧ j < k
      · rw [if_pos c1, if_pos (by omega)]
      · rw [if_neg c1]
        by_cases c2 : j = k - 4 + i
        · rw [if_pos c2, if_pos (by omega), bp_2, hb_i32 _ (by omega), show k - 1 - j = 3 - i by omega]
        · rw [if_neg c2, if_neg (by omega)]
theorem tl_both (F : Nat) (hF : 6000 < F) (u : Int32) {len ov : Int32} {w : Nat → Int32} {c : Option (List Int32)} (h : CR 6000 0 len ov (rb w) c) {pos : Int32} (hp : POS pos c) : ∃ (w' : Nat → Int32) (c1 : Option (List Int32)), fX2_endLongElement F u len 1501 w pos = some w' ∧ CR 6000 0 len ov (rb w') c1 ∧ GE c c1 ∧ (pos = -1 → c1 = c) ∧ ∀ (md mf : Int32) (dr : Nat → Int32), CR 6000 0 md mf (fun k => dr k &&& 255) c → ¬ pos = -1 → ∃ dr', fX10_tell F md mf dr pos u = some dr' ∧ CR 6000 0 md mf (fun k => dr' k &&& 255) c1 := by
  unfold fX2_endLongElement fX10_tell
  by_cases q1 : pos = -1
  · rw [if_pos q1]
    exact ⟨w, c, rfl, h, GE_refl c, fun _ => rfl, fun md mf dr _ hn => absurd q1 hn⟩
  rw [if_neg q1]
  by_cases q2 : u = 0
  · rw [if_pos q2]
    rcases hp with hp | ⟨k, hk1, hk2, hk3, hk4⟩
    · exact absurd hp q1
    cases c with
    | none =>
      obtain ⟨w', d1, d2⟩ := c28 F hk2 hk3 (Nat.le_refl _) (268435456 ||| (len - pos)) 4 F 0 w (by omega) (by omega)
      have hl := h.1
      have d1' : fX2_endLongElement_b28 F (nI 6000) 1501 (nI k) F 0 (268435456 ||| (len - pos)) w = some w' := d1
      refine ⟨w', none, ?_, h, GE_refl _, fun _ => rfl, fun md mf dr hc _ => ⟨dr, ?_, hc⟩⟩
      · rw [nm_eq, ← d1', hl, hk1]
      · rw [if_pos q2, if_neg (by rw [hc.2]; decide)]
    | some L =>
      have hkL := hk4 L rfl
      obtain ⟨w', d1, d2⟩ := c28 F hk2 hkL h.1 (268435456 ||| (nI L.length - nI k)) 4 F 0 w (by omega) (by omega)
      have d1' : fX2_endLongElement_b28 F (nI L.length) 1501 (nI k) F 0 (268435456 ||| (nI L.length - nI k)) w = some w' := d1
      refine ⟨w', some (seg (rb w') 0 L.length), ?_, ?_, ⟨(fun q => by cases q), fun k' hk' L' hL' => ?_⟩, fun q => absurd q q1, fun md mf dr hc _ => ?_⟩
      · rw [nm_eq, ← d1', h.2.1, hk1]
      · rw [h.2.1, h.2.2.1]
        exact CR_seg h.1 rfl (fun _ _ => rfl)
      · rw [← Option.some.inj hL', seg_len]
        exact hk' L rfl
      · obtain ⟨g, g1, g2⟩ := r26 F hk2 hk3 (268435456 ||| (nI L.length - nI k)) 4 F 0 dr (by omega) (by omega)
        have g1' : fX10_tell_b26 F (nI k) F 0 (268435456 ||| (nI L.length - nI k)) dr = some g := g1
        refine ⟨g, ?_, ?_⟩
        · rw [if_pos q2, if_pos hc.2.2.1, nm_eq, ← g1', hc.2.1, hk1, Int32.or_comm]
        · rw [hc.2.1, hc.2.2.1]
          refine CR_seg h.1 rfl (fun j hj => ?_)
          show g j &&& 255 = rb w' j
          rw [g2 j, d2 j]
          by_cases qq : k - 4 ≤ j ∧ j < k
          · rw [if_pos (by omega), if_pos (by omega)]
          · rw [if_neg (by omega), if_neg (by omega), h.2.2.2 j _ (List.getElem?_eq_getElem hj)]
            exact hc.2.2.2 j _ (List.getElem?_eq_getElem hj)
  · rw [if_neg q2]
    exact ⟨w, c, rfl, h, GE_refl c, fun _ => rfl, fun md mf dr hc _ => ⟨dr, by rw [if_neg q2], hc⟩⟩
-- a cluster's time
theorem bl_lN {x : Nat} (i : Nat) (hi : i < 64) : bl (lN x) i = x.testBit i := by
  show (BitVec.ofNat 64 x).getLsbD i = _
  rw [BitVec.getLsbD_ofNat, decide_eq_true hi, Bool.true_and]
theorem ush_lN {x n : Nat} (hx : x < 2 ^ 63) (hn : n < 64) : ushr64 (lN x) (nI n) = lN (x / 2 ^ n) := by
  refine bl_ext (fun i hi => ?_)
  rw [bl_ush _ n hn, bl_lN i hi, Nat.testBit_div_two_pow, Nat.add_comm]
  rcases Nat.lt_or_ge (i + n) 64 with q | q
  · exact bl_lN _ q
  · have h1 : bl (lN x) (i + n) = false := BitVec.getLsbD_of_ge _ _ q
    rw [h1, Nat.testBit_lt_two_pow (Nat.lt_of_lt_of_le hx (Nat.pow_le_pow_right (by omega) (by omega)))]
theorem shr_lN {x n : Nat} (hx : x < 2 ^ 63) (hn : n < 64) : shr64 (lN x) (nI n) = lN (x / 2 ^ n) := by
  refine bl_ext (fun i hi => ?_)
  rw [bl_shr _ n hn hi, bl_lN i hi, Nat.testBit_div_two_pow, Nat.add_comm n i]
  rcases Nat.lt_or_ge (i + n) 64 with q | q
  · rw [if_pos q, bl_lN _ q]
  · rw [if_neg (by omega), bl_lN 63 (by omega), Nat.testBit_lt_two_pow hx, Nat.testBit_lt_two_pow (Nat.lt_of_lt_of_le hx (Nat.pow_le_pow_right (by omega) (by omega)))]
theorem lN_z {x n : Nat} (hx : x < 2 ^ 63) : lN (x / 2 ^ n) = 0 ↔ x < 2 ^ n := by
  have h0 : (0 : Int64) = lN 0 := rfl
  have h1 : x / 2 ^ n ≤ x := Nat.div_le_self _ _
  rw [h0, pk_lEQ (by omega) (by omega)]
  constructor
  · intro h
    exact (Nat.div_eq_zero_iff_lt (Nat.two_pow_pos n)).mp h
  · intro h
    exact Nat.div_eq_of_lt h
def KP (x K : Nat) : Prop := 1 ≤ K ∧ K ≤ 8 ∧ (K = 1 ∨ 2 ^ (8 * (K - 1)) ≤ x) ∧ x < 2 ^ (8 * K)
theorem KP_uniq {x a b : Nat} (ha : KP x a) (hb : KP x b) : a = b := by
  obtain ⟨a1, a2, a3, a4⟩ := ha
  obtain ⟨b1, b2, b3, b4⟩ := hb
  rcases Nat.lt_trichotomy a b with h | h | h
  · have := Nat.pow_le_pow_right (n := 2) (by omega) (show 8 * a ≤ 8 * (b - 1) by omega)
    omega
  · exact h
  · have := Nat.pow_le_pow_right (n := 2) (by omega) (show 8 * b ≤ 8 * (a - 1) by omega)
    omega
theorem ct5 (F : Nat) {x : Nat} (hx : x < 2 ^ 40) (len ov : Int32) (w : Nat → Int32) : ∀ (m n j l3 : Nat), j + m = 9 → 2 ≤ j → m < n → 1 ≤ l3 → l3 < j → (l3 = 1 ∨ 2 ^ (8 * (l3 - 1)) ≤ x) → (l3 = j - 1 ∨ x < 2 ^ (8 * l3)) → ∃ K, KP x K ∧ fX2_putClusterTime_b5 F 6000 len ov 1501 w (lN x) n (nI j) (nI l3) = ((fX8_add F 6000 len ov 1501 w 231).bind fun o2 => (fX2_putSize F 6000 o2.1 o2.2.1 1501 o2.2.2 ((nI K).toInt64)).bind fun o3 => (fX8_addHighFirst F 6000 o3.1 o3.2.1 1501 o3.2.2 (lN x) (nI K)).bind fun o4 => some (o4.1, o4.2.1, o4.2.2)) := by
  intro m
  induction m with
  | zero =>
    intro n j l3 h1 h2 h3 h4 h5 h6 h7
    obtain ⟨n', rfl⟩ : ∃ n', n = n' + 1 := ⟨n - 1, by omega⟩
    refine ⟨l3, ⟨h4, by omega, h6, ?_⟩, ?_⟩
    · rcases h7 with h | h
      · rw [show l3 = 8 by omega]
        omega
      · exact h
    · rw [fX2_putClusterTime_b5, i8, if_pos (nI_lt (by omega) (by omega))]
  | succ m ih =>
    intro n j l3 h1 h2 h3 h4 h5 h6 h7
    obtain ⟨n', rfl⟩ : ∃ n', n = n' + 1 := ⟨n - 1, by omega⟩
    have hj : (8 : Int32) * (nI j - 1) = nI (8 * (j - 1)) := by
      obtain ⟨q, rfl⟩ : ∃ q, j = q + 1 := ⟨j - 1, by omega⟩
      rw [nI_pred, m8]
      rfl
    have h8 : ¬ (8 : Int32) < nI j := by rw [i8]; exact nI_nlt (by omega) (by omega)
    rw [fX2_putClusterTime_b5, if_neg h8, hj, ush_lN (by omega) (by omega)]
    unfold fX2_putClusterTime_b29
    rw [nm_eq, nm_eq, nI_1]
    by_cases c : x < 2 ^ (8 * (j - 1))
    · rw [if_pos ((lN_z (by omega)).mpr c)]
      refine ih n' (j + 1) l3 (by omega) (by omega) (by omega) h4 (by omega) h6 (Or.inr ?_)
      rcases h7 with h | h
      · rw [h]; exact c
      · exact h
    · rw [if_neg (fun q => c ((lN_z (by omega)).mp q))]
      exact ih n' (j + 1) j (by omega) (by omega) (by omega) (by omega) (by omega) (Or.inr (by omega)) (Or.inl (by omega))
theorem ctime_c (F : Nat) (hF : 6000 < F) {x : Nat} (hx : x < 2 ^ 40) {len ov : Int32} {w : Nat → Int32} {c : Option (List Int32)} (h : CR 6000 0 len ov (rb w) c) : ∃ K r, KP x K ∧ fX2_putClusterTime F 6000 len ov 1501 w (lN x) = some r ∧ CR 6000 0 r.1 r.2.1 (rb r.2.2) (app 6000 c ([(231 : Int32) &&& 255] ++ (szL K ++ hiL (lN x) K))) := by
  obtain ⟨K, hK, e⟩ := ct5 F hx len ov w 7 F 2 1 (by omega) (by omega) (by omega) (by omega) (by omega) (Or.inl rfl) (Or.inl rfl)
  have e' : fX2_putClusterTime_b5 F 6000 len ov 1501 w (lN x) F 2 1 = _ := e
  have hK8 := hK.2.1
  obtain ⟨r1, a1, c1⟩ := ad1 F 231 h
  obtain ⟨r2, a2, c2⟩ := cputSize F (by omega) (cap := 6000) (nw := 1501) (by omega) (by omega) (by omega) (x := K) (by omega) c1
  obtain ⟨r3, a3, c3⟩ := addHigh_CR F (cap := 6000) (nw := 1501) (by omega) (by omega) (by omega) (lN x) K hK8 (by omega) c2
  have a2' : fX2_putSize F 6000 r1.1 r1.2.1 1501 r1.2.2 (lN K) = some r2 := a2
  have a3' : fX8_addHighFirst F 6000 r2.1 r2.2.1 1501 r2.2.2 (lN x) (nI K) = some r3 := a3
  rw [app_app, app_app] at c3
  refine ⟨K, (r3.1, r3.2.1, r3.2.2), hK, ?_, c3⟩
  unfold fX2_putClusterTime
  rw [e', a1, Option.bind_some, nI_l (by omega), a2', Option.bind_some, a3', Option.bind_some]
theorem szL_8 : ∀ K, K < 9 → [((128 : Int32) + nI K) &&& 255] = szL K := by decide +kernel
theorem r221 (F : Nat) {x : Nat} (hx : x < 2 ^ 40) (hm : Int32) (ms mb : Nat → Int32) (p1 p2 : Int32) (rc : Int64 → Int32 → Int32 → Int32 → Int32 → Int32 → Int32 → Int32 → (Nat → Int32) → Option (Int32 × Int32 × Int32 × Int32 × (Nat → Int32) × (Nat → Int32))) (l10 : Int64) (l8 l5 l6 l7 md mf : Int32) (dr : Nat → Int32) : ∀ (m n k : Nat), k + m = 8 → 1 ≤ k → m < n → (k = 1 ∨ 2 ^ (8 * (k - 1)) ≤ x) → ∃ K, KP x K ∧ fX10_elements__b221 F hm ms mb p1 p2 rc n (nI k) l10 l8 l5 l6 l7 (lN x) md mf dr = fX10_elements__b247 F hm ms mb p1 p2 rc l5 l6 l7 l8 l10 (lN x) (nI K) md mf dr := by
  intro m
  induction m with
  | zero =>
    intro n k h1 h2 h3 h4
    obtain ⟨n', rfl⟩ : ∃ n', n = n' + 1 := ⟨n - 1, by omega⟩
    refine ⟨k, ⟨h2, by omega, h4, ?_⟩, ?_⟩
    · rw [show k = 8 by omega]
      omega
    · rw [fX10_elements__b221, i8, if_pos (nI_le (by omega) (by omega))]
  | succ m ih =>
    intro n k h1 h2 h3 h4
    obtain ⟨n', rfl⟩ : ∃ n', n = n' + 1 := ⟨n - 1, by omega⟩
    have h8 : ¬ (8 : Int32) ≤ nI k := by rw [i8]; exact nI_ge (by omega) (by omega)
    rw [fX10_elements__b221, if_neg h8, m8, shr_lN (by omega) (by omega)]
    by_cases c : x < 2 ^ (8 * k)
    · rw [if_pos ((lN_z (by omega)).mpr c)]
      exact ⟨k, ⟨h2, by omega, h4, c⟩, rfl⟩
    · rw [if_neg (fun q => c ((lN_z (by omega)).mp q)), nm_eq, nI_1]
      exact ih n' (k + 1) (by omega) (by omega) (by omega) (Or.inr (by rw [show k + 1 - 1 = k by omega]; omega))
-- a packet's time to write is within bounds
theorem ttw_bd (F : Nat) {N : Nat} {t : Nat → Int64} (hN : N ≤ 64) (hb : ∀ i, i < N → -1 ≤ t i ∧ t i ≤ 1099511627775) : ∀ (m n : Nat), m ≤ N → m < n → ∃ x : Nat, x < 2 ^ 40 ∧ fX4_timeToWrite_b2 F (nI N) t n (nI m + (-1)) = some (lN x) := by
  intro m
  induction m with
  | zero =>
    intro n h1 h2
    obtain ⟨a, rfl⟩ : ∃ a, n = a + 1 := ⟨n - 1, by omega⟩
    refine ⟨0, by omega, ?_⟩
    rw [fX4_timeToWrite_b2, if_pos (by decide)]
    rfl
  | succ m ih =>
    intro n h1 h2
    obtain ⟨a, rfl⟩ : ∃ a, n = a + 1 := ⟨n - 1, by omega⟩
    rw [pk_m1, fX4_timeToWrite_b2, if_neg (nI_pos (by omega)), timeOf_in F hN (by omega), Option.bind_some, Option.bind_some]
    by_cases c : t m = -1
    · rw [if_pos c, nm_eq]
      exact ih a (by omega) (by omega)
    · rw [if_neg c]
      obtain ⟨b1, b2⟩ := hb m (by omega)
      have t1 : (-1 : Int64).toInt = -1 := by decide +kernel
      have t2 : (1099511627775 : Int64).toInt = 1099511627775 := by decide +kernel
      have hne : (t m).toInt ≠ -1 := fun q => c (Int64.toInt_inj.mp (by rw [q, t1]))
      rw [Int64.le_iff_toInt_le, t1] at b1
      rw [Int64.le_iff_toInt_le, t2] at b2
      have hn : ¬ t m < 0 := by rw [Int64.lt_iff_toInt_lt, ti0]; omega
      obtain ⟨k, hk, e⟩ := pk_lOf hn
      refine ⟨k, ?_, by rw [e]⟩
      rw [e, pk_lT hk] at b2
      omega
theorem time_eq2 (F : Nat) (hF : 100 < F) {N i : Nat} {t mt : Nat → Int64} (hN : N ≤ 64) (heq : ∀ i, i < N → t i = mt i) (hb : ∀ i, i < N → -1 ≤ t i ∧ t i ≤ 1099511627775) (hi : i < N) : ∃ x : Nat, x < 2 ^ 40 ∧ fX4_timeToWrite F (nI N) t (nI i) = some (lN x) ∧ fX10_timeOf F mt (nI i) = some (lN x) := by
  obtain ⟨v, v1, v2⟩ := time_eq F hF hN heq hi
  obtain ⟨x, x1, x2⟩ := ttw_bd F hN hb (i + 1) F (by omega) (by omega)
  rw [pk_m1] at x2
  have x2' : fX4_timeToWrite F (nI N) t (nI i) = some (lN x) := x2
  rw [v1] at x2'
  have hv : v = lN x := Option.some.inj x2'
  rw [hv] at v1 v2
  exact ⟨x, x1, v1, v2⟩
-- does a time fit a block
theorem fits_eq (d : Int64) : d = (((d.toInt32).toInt16.toInt32).toInt64) ↔ ¬ d < (-32768) ∧ ¬ 32767 < d := by
  have t1 : (-32768 : Int64).toInt = -32768 := by decide +kernel
  have t2 : (32767 : Int64).toInt = 32767 := by decide +kernel
  have h : (((d.toInt32).toInt16.toInt32).toInt64).toInt = d.toInt.bmod (2 ^ 16) := by
    rw [Int32.toInt_toInt64, Int16.toInt_toInt32, Int32.toInt_toInt16, Int64.toInt_toInt32, Int.bmod_bmod_of_dvd (by decide)]
  rw [← Int64.toInt_inj, h, Int64.lt_iff_toInt_lt, Int64.lt_iff_toInt_lt, t1, t2]
  have h1 := Int.le_bmod (x := d.toInt) (m := 2 ^ 16) (by decide)
  have h2 := Int.bmod_lt (x := d.toInt) (m := 2 ^ 16) (by decide)
  constructor
  · intro q
    rw [← q] at h1 h2
    omega
  · intro q
    exact (Int.bmod_eq_of_le (by omega) (by omega)).symm
theorem fits_c (F : Nat) (d : Int64) : fX2_fitsBlock F d = some (if ¬ d < (-32768) ∧ ¬ 32767 < d then 1 else 0) := by
  unfold fX2_fitsBlock fX2_fitsBlock_b21
  by_cases q1 : d < (-32768)
  · rw [if_pos q1, if_pos isb0, if_neg (fun h => h.1 q1)]
  · rw [if_neg q1]
    by_cases q2 : 32767 < d
    · rw [if_pos q2, if_pos isb0, if_neg (fun h => h.2 q2)]
    · rw [if_neg q2, if_pos isb1, if_pos ⟨q1, q2⟩]
-- how many packets a block takes
theorem cnt_eq (F : Nat) {N p l0 pk most : Nat} {sz : Nat → Nat} {ms pe : Nat → Int32} (hN : N ≤ 64) (hps : psum sz N ≤ 2400) (hms : ∀ i, i < N → ms i = nI (sz i)) (he : ∀ i, i < N → pe i = nI (psum sz (i + 1))) (hp : p < N) (hl : l0 < 4) (hpk : 1 ≤ pk) (hpk8 : pk ≤ 8) (hmost : most = if l0 = 0 then 1 else pk) (mb : Nat → Int32) (rc : Int64 → Int32 → Int32 → Int32 → Int32 → Int32 → Int32 → Int32 → (Nat → Int32) → Option (Int32 × Int32 × Int32 × Int32 × (Nat → Int32) × (Nat → Int32))) (l5 l7 l8 l9 md mf : Int32) (l10 l12 : Int64) (dr : Nat → Int32) : ∀ (m k n n' : Nat), k + m = 9 → 1 ≤ k → k ≤ 8 → k ≤ most → p + k ≤ N → m < n → m < n' → ∃ cnt, k ≤ cnt ∧ cnt ≤ 8 ∧ p + cnt ≤ N ∧ fX2_packetsOfBlock_b6 F (nI l0) (nI most) (nI N) pe (nI p) n (nI (p + k)) (nI k) = some (nI cnt) ∧ fX10_elements__b268 F (nI N) ms mb (nI l0) (nI pk) rc n' (nI k) l5 (nI p) l7 l8 l9 l10 l12 md mf dr = fX10_elements__b321 F ms mb (nI l0) rc l5 (nI p) l7 l8 l9 l10 l12 (nI cnt) md mf dr := by
  have hsz : ∀ i, i < N → sz i ≤ 2400 := by
    intro i hi
    have h1 := psum_le (sz := sz) (show i + 1 ≤ N by omega)
    have h2 : psum sz (i + 1) = psum sz i + sz i := rfl
    omega
  intro m
  induction m with
  | zero => intro k n n' h1 h2 h3; omega
  | succ m ih =>
    intro k n n' h1 h2 h3 h4 h5 h6 h7
    obtain ⟨a, rfl⟩ : ∃ a, n = a + 1 := ⟨n - 1, by omega⟩
    obtain ⟨b, rfl⟩ : ∃ b, n' = b + 1 := ⟨n' - 1, by omega⟩
    rw [fX2_packetsOfBlock_b6, fX10_elements__b268]
    unfold fX2_packetsOfBlock_b64 fX2_packetsOfBlock_b55 fX10_elements__b315
    simp only [nm_eq, nI_1, nI_add]
    have hm1 : most ≤ 8 := by
      rw [hmost]
      by_cases q : l0 = 0
      · rw [if_pos q]; omega
      · rw [if_neg q]; exact hpk8
    by_cases cl : l0 = 0
    · rw [if_pos cl] at hmost
      refine ⟨k, Nat.le_refl _, h3, h5, ?_, ?_⟩
      · rw [if_pos (show nI most ≤ nI k from nI_le (by omega) (by omega))]
        by_cases c1 : nI N ≤ nI (p + k)
        · rw [if_pos c1]
        · rw [if_neg c1]
      · rw [if_pos (show nI l0 ≤ 0 by rw [cl]; decide)]
    · rw [if_neg cl] at hmost
      rw [if_neg (show ¬ nI l0 ≤ 0 from nI_nle (by omega) (by omega)), hmost]
      by_cases c2 : pk ≤ k
      · refine ⟨k, Nat.le_refl _, h3, h5, ?_, ?_⟩
        · rw [if_pos (nI_le c2 (by omega))]
          by_cases c1 : nI N ≤ nI (p + k)
          · rw [if_pos c1]
          · rw [if_neg c1]
        · rw [if_pos (nI_le c2 (by omega))]
      · rw [if_neg (nI_ge (show k < pk by omega) (by omega)), if_neg (nI_ge (show k < pk by omega) (by omega))]
        by_cases c1 : N ≤ p + k
        · refine ⟨k, Nat.le_refl _, h3, h5, ?_, ?_⟩
          · rw [if_pos (nI_le c1 (by omega))]
          · rw [if_pos (nI_le c1 (by omega))]
        · rw [if_neg (nI_ge (show p + k < N by omega) (by omega)), if_neg (nI_ge (show p + k < N by omega) (by omega))]
          have go : ∃ cnt, k ≤ cnt ∧ cnt ≤ 8 ∧ p + cnt ≤ N ∧ fX2_packetsOfBlock_b6 F (nI l0) (nI pk) (nI N) pe (nI p) a (nI (p + k + 1)) (nI (k + 1)) = some (nI cnt) ∧ fX10_elements__b268 F (nI N) ms mb (nI l0) (nI pk) rc b (nI (k + 1)) l5 (nI p) l7 l8 l9 l10 l12 md mf dr = fX10_elements__b321 F ms mb (nI l0) rc l5 (nI p) l7 l8 l9 l10 l12 (nI cnt) md mf dr := by
            obtain ⟨cnt, d1, d2, d3, d4, d5⟩ := ih (k + 1) a b (by omega) (by omega) (by omega) (by omega) (by omega) (by omega) (by omega)
            rw [hmost] at d4
            exact ⟨cnt, by omega, d2, d3, d4, d5⟩
          by_cases c3 : l0 = 2
          · have hl2 : nI l0 = 2 := by rw [c3]; rfl
            have s1 := hsz (p + k) (by omega)
            have s2 := hsz p hp
            rw [if_pos hl2, if_pos hl2, bytesOf_in F hN (by omega) he, Option.bind_some, bytesOf_in F hN hp he, Option.bind_some, if_pos (gin_nI (k := p + k) (n := 64) (by omega) (by omega)), if_pos (gin_nI (k := p) (n := 64) (by omega) (by omega)), nI_clamp (by omega), nI_clamp (by omega), hms (p + k) (by omega), hms p hp]
            by_cases c4 : nI (sz (p + k)) = nI (sz p)
            · rw [if_pos c4, if_pos c4]
              exact go
            · rw [if_neg c4, if_neg c4]
              exact ⟨k, Nat.le_refl _, h3, h5, rfl, rfl⟩
          · have hl2 : ¬ nI l0 = 2 := by rw [i2, nI_eq (by omega) (by omega)]; exact c3
            rw [if_neg hl2, if_neg hl2]
            exact go
