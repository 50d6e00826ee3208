-- longs by their bits; rows of bytes as lists
def bl (x : Int64) (i : Nat) : Bool := x.toBitVec.getLsbD i
theorem bt_i64 (x : Int64) {i : Nat} (hi : i < 32) : bt x.toInt32 i = bl x i := by
  unfold bt bl
  rw [Int64.toBitVec_toInt32, BitVec.getLsbD_signExtend, if_pos (by omega)]
  simp only [hi, decide_true, Bool.true_and]
theorem bl_i32 (x : Int32) {i : Nat} (hi : i < 64) : bl x.toInt64 i = if i < 32 then bt x i else bt x 31 := by
  unfold bt bl
  rw [Int32.toBitVec_toInt64, BitVec.getLsbD_signExtend, BitVec.msb_eq_getLsbD_last]
  simp only [hi, decide_true, Bool.true_and]
theorem bl_ext {x y : Int64} (h : ∀ i, i < 64 → bl x i = bl y i) : x = y := Int64.toBitVec_inj.mp (BitVec.eq_of_getLsbD_eq (fun i hi => h i hi))
theorem s_u64 : ∀ n, n < 64 → (((nI n).toInt64.toUInt64 &&& Int64.toUInt64 63).toBitVec % 64).toNat = n := by decide +kernel
theorem s_l64 : ∀ n, n < 64 → (((nI n).toInt64 &&& 63).toBitVec.smod 64).toNat = n := by decide +kernel
theorem bl_ush (x : Int64) (n : Nat) (hn : n < 64) (i : Nat) : bl (ushr64 x (nI n)) i = bl x (n + i) := by
  show (x.toUInt64 >>> ((nI n).toInt64.toUInt64 &&& Int64.toUInt64 63)).toBitVec.getLsbD i = x.toUInt64.toBitVec.getLsbD (n + i)
  rw [UInt64.toBitVec_shiftRight]
  show (x.toUInt64.toBitVec >>> (((nI n).toInt64.toUInt64 &&& Int64.toUInt64 63).toBitVec % 64).toNat).getLsbD i = _
  rw [s_u64 n hn, BitVec.getLsbD_ushiftRight]
theorem bl_shr (x : Int64) (n : Nat) (hn : n < 64) {i : Nat} (hi : i < 64) : bl (shr64 x (nI n)) i = if n + i < 64 then bl x (n + i) else bl x 63 := by
  unfold bl shr64
  rw [Int64.toBitVec_shiftRight]
  show (x.toBitVec.sshiftRight (((nI n).toInt64 &&& 63).toBitVec.smod 64).toNat).getLsbD i = _
  rw [s_l64 n hn, BitVec.getLsbD_sshiftRight, BitVec.msb_eq_getLsbD_last]
  simp [hi]
theorem bl_shl (x : Int64) (n : Nat) (hn : n < 64) {i : Nat} (hi : i < 64) : bl (shl64 x (nI n)) i = (decide (n ≤ i) && bl x (i - n)) := by
  unfold bl shl64
  rw [Int64.toBitVec_shiftLeft]
  show (x.toBitVec <<< (((nI n).toInt64 &&& 63).toBitVec.smod 64).toNat).getLsbD i = _
  rw [s_l64 n hn, BitVec.getLsbD_shiftLeft]
  rcases Nat.lt_or_ge i n with h | h
  · simp [h, Nat.not_le.mpr h]
  · simp [hi, h, Nat.not_lt.mpr h]
theorem bl_or (x y : Int64) (i : Nat) : bl (x ||| y) i = (bl x i || bl y i) := by unfold bl; rw [Int64.toBitVec_or, BitVec.getLsbD_or]
/-- byte i of a long -/
def hb (v : Int64) (i : Nat) : Int32 := (ushr64 v (nI (8 * i))).toInt32 &&& 255
theorem hb_bt (v : Int64) {i : Nat} (hi : i < 8) {j : Nat} (hj : j < 32) : bt (hb v i) j = (bl v (8 * i + j) && decide (j < 8)) := by
  unfold hb
  rw [bt_255, bt_i64 _ hj, bl_ush _ _ (by omega)]
theorem hb_shr (v : Int64) {i : Nat} (hi : i < 8) : (shr64 v (nI (8 * i))).toInt32 &&& 255 = hb v i := by
  refine b_ext (fun j hj => ?_)
  rw [hb_bt v hi hj, bt_255, bt_i64 _ hj, bl_shr _ _ (by omega) (by omega)]
  by_cases h8 : j < 8
  · rw [if_pos (by omega)]
  · rw [decide_eq_false h8, Bool.and_false, Bool.and_false]
theorem hb_i32 (p : Int32) {i : Nat} (hi : i < 4) : (p >>> (nI (8 * i) &&& 31)) &&& 255 = hb p.toInt64 i := by
  refine b_ext (fun j hj => ?_)
  rw [hb_bt _ (by omega) hj, bt_255, b_sshr _ (by omega) _ hj]
  by_cases h8 : j < 8
  · rw [if_pos (by omega), bl_i32 _ (by omega), if_pos (by omega)]
  · rw [decide_eq_false h8, Bool.and_false, Bool.and_false]
theorem hb_u32 (p : Int32) {i : Nat} (hi : i < 4) : ushr32 p (nI (8 * i)) &&& 255 = hb p.toInt64 i := by
  refine b_ext (fun j hj => ?_)
  rw [hb_bt _ (by omega) hj, bt_255, bt_ush _ _ (by omega)]
  by_cases h8 : j < 8
  · rw [bl_i32 _ (by omega), if_pos (by omega)]
  · rw [decide_eq_false h8, Bool.and_false, Bool.and_false]
theorem hb_255 (v : Int64) (i : Nat) : hb v i &&& 255 = hb v i := by unfold hb; rw [and_255_255]
def CR (cap : Nat) (o len ov : Int32) (rd : Nat → Int32) : Option (List Int32) → Prop
  | none => len = nI cap ∧ ov = 1
  | some L => L.length ≤ cap ∧ len = nI L.length ∧ ov = o ∧ ∀ k x, L[k]? = some x → rd k = x
def app (cap : Nat) (c : Option (List Int32)) (X : List Int32) : Option (List Int32) := c.bind fun L => if L.length + X.length ≤ cap then some (L ++ X) else none
theorem app_none (cap : Nat) (X : List Int32) : app cap none X = none := rfl
theorem app_some (cap : Nat) (L X : List Int32) : app cap (some L) X = if L.length + X.length ≤ cap then some (L ++ X) else none := rfl
theorem app_nil {cap : Nat} {o len ov : Int32} {rd : Nat → Int32} {c : Option (List Int32)} (h : CR cap o len ov rd c) : app cap c [] = c := by
  cases c with
  | none => rfl
  | some L => rw [app_some, List.append_nil, if_pos (by have := h.1; simp only [List.length_nil]; omega)]
theorem app_app (cap : Nat) (c : Option (List Int32)) (X Y : List Int32) : app cap (app cap c X) Y = app cap c (X ++ Y) := by
  cases c with
  | none => rfl
  | some L =>
    rw [app_some, app_some, List.length_append]
    by_cases h : L.length + X.length ≤ cap
    · rw [if_pos h, app_some, List.length_append, List.append_assoc, Nat.add_assoc]
    · rw [if_neg h, if_neg (by omega), app_none]
theorem add_CR (F : Nat) {cap n : Nat} (hc : cap < 2 ^ 30) (hn : cap / 4 < n) (hn2 : n < 2 ^ 30) {o len ov : Int32} {w : Nat → Int32} {c : Option (List Int32)} (h : CR cap o len ov (rb w) c) (v : Int32) : ∃ r, fX8_add F (nI cap) len ov n w v = some r ∧ CR cap o r.1 r.2.1 (rb r.2.2) (app cap c [v &&& 255]) := by
  unfold fX8_add nm
  cases c with
  | none =>
    obtain ⟨h1, h2⟩ := h
    rw [h1, if_neg (nI_nlt (Nat.le_refl _) (by omega))]
    exact ⟨_, rfl, rfl, rfl⟩
  | some L =>
    obtain ⟨h1, h2, h3, h4⟩ := h
    rw [app_some, h2]
    rcases Nat.lt_or_ge L.length cap with q | q
    · rw [if_pos (nI_lt q (by omega)), if_pos (show L.length + [v &&& 255].length ≤ cap from q)]
      rw [nI_1]
      dsimp only
      rw [nI_pred, change_in F v (Nat.lt_succ_self _) (by omega) (by omega) (by omega)]
      refine ⟨_, rfl, ?_, ?_, h3, ?_⟩
      · rw [List.length_append]; exact q
      · rw [List.length_append]; rfl
      · intro k x hx
        show rb (wset w L.length v) k = x
        rw [rb_wset]
        by_cases hk : k = L.length
        · rw [if_pos hk]
          rw [hk, List.getElem?_append_right (Nat.le_refl _), Nat.sub_self] at hx
          exact Option.some.inj hx
        · rw [if_neg hk]
          have : k < L.length := by
            rcases Nat.lt_or_ge k L.length with z | z
            · exact z
            · rw [List.getElem?_eq_none (by rw [List.length_append]; show L.length + 1 ≤ k; omega)] at hx; cases hx
          rw [List.getElem?_append_left this] at hx
          exact h4 k x hx
    · rw [if_neg (nI_nlt q (by omega)), if_neg (show ¬ L.length + [v &&& 255].length ≤ cap from by show ¬ L.length + 1 ≤ cap; omega)]
      exact ⟨_, rfl, by rw [show L.length = cap by omega], rfl⟩
theorem put_CR (F : Nat) {md mf : Int32} {dr : Nat → Int32} {c : Option (List Int32)} (h : CR 6000 0 md mf (fun k => dr k &&& 255) c) (b : Int32) : ∃ r, fX10_put F md mf dr b = some r ∧ CR 6000 0 r.1 r.2.1 (fun k => r.2.2 k &&& 255) (app 6000 c [b &&& 255]) := by
  unfold fX10_put nm
  rw [i6000]
  cases c with
  | none =>
    obtain ⟨h1, h2⟩ := h
    rw [h1, if_pos rfl]
    exact ⟨_, rfl, rfl, rfl⟩
  | some L =>
    obtain ⟨h1, h2, h3, h4⟩ := h
    rw [app_some, h2]
    rcases Nat.lt_or_ge L.length 6000 with q | q
    · rw [if_neg (by rw [nI_eq (by omega) (by omega)]; omega), if_pos (show L.length + [b &&& 255].length ≤ 6000 from q)]
      rw [if_pos (gin_nI q (by omega)), nI_clamp (by omega)]
      dsimp only
      rw [nI_1]
      refine ⟨_, rfl, ?_, ?_, h3, ?_⟩
      · rw [List.length_append]; exact q
      · rw [List.length_append]; rfl
      · intro k x hx
        show upd dr L.length _ k &&& 255 = x
        rw [upd_app]
        by_cases hk : k = L.length
        · rw [if_pos hk, bp_2]
          rw [hk, List.getElem?_append_right (Nat.le_refl _), Nat.sub_self] at hx
          exact Option.some.inj hx
        · rw [if_neg hk]
          have : k < L.length := by
            rcases Nat.lt_or_ge k L.length with z | z
            · exact z
            · rw [List.getElem?_eq_none (by rw [List.length_append]; show L.length + 1 ≤ k; omega)] at hx; cases hx
          rw [List.getElem?_append_left this] at hx
          exact h4 k x hx
    · rw [if_pos (by rw [show L.length = 6000 by omega]), if_neg (show ¬ L.length + [b &&& 255].length ≤ 6000 from by show ¬ L.length + 1 ≤ 6000; omega)]
      exact ⟨_, rfl, by rw [show L.length = 6000 by omega], rfl⟩
/-- the n low bytes of a long, the high one first -/
def hiL (v : Int64) : Nat → List Int32
  | 0 => []
  | n + 1 => hb v n :: hiL v n
/-- the bytes i, i + 1 .. of a long -/
def loL (v : Int64) (i : Nat) : Nat → List Int32
  | 0 => []
  | n + 1 => hb v i :: loL v (i + 1) n
/-- f a, f (a + 1) .. -/
def seg (f : Nat → Int32) (a : Nat) : Nat → List Int32
  | 0 => []
  | n + 1 => f a :: seg f (a + 1) n
theorem high_loop (F : Nat) {cap nw : Nat} (hc : cap < 2 ^ 30) (hn : cap / 4 < nw) (hn2 : nw < 2 ^ 30) (v : Int64) {o : Int32} : ∀ (m n : Nat) (len ov : Int32) (w : Nat → Int32) (c : Option (List Int32)), m ≤ 8 → m < n → CR cap o len ov (rb w) c → ∃ r, fX8_addHighFirst_b5 F (nI cap) nw v n (nI m + (-1)) len ov w = some r ∧ CR cap o r.1 r.2.1 (rb r.2.2) (app cap c (hiL v m)) := by
  intro m
  induction m with
  | zero =>
    intro n len ov w c h8 hmn h
    cases n with
    | zero => omega
    | succ n =>
      unfold fX8_addHighFirst_b5
      rw [if_pos (by decide)]
      exact ⟨_, rfl, by rw [hiL, app_nil h]; exact h⟩
  | succ m ih =>
    intro n len ov w c h8 hmn h
    cases n with
    | zero => omega
    | succ n =>
      unfold fX8_addHighFirst_b5
      rw [pk_m1, if_neg (nI_pos (by omega)), m8]
      obtain ⟨r, h1, h2⟩ := add_CR F hc hn hn2 h ((ushr64 v (nI (8 * m))).toInt32)
      rw [h1, Option.bind_some]
      obtain ⟨r2, h3, h4⟩ := ih n _ _ _ _ (by omega) (by omega) h2
      rw [app_app] at h4
      exact ⟨r2, h3, h4⟩
theorem addHigh_CR (F : Nat) {cap nw : Nat} (hc : cap < 2 ^ 30) (hn : cap / 4 < nw) (hn2 : nw < 2 ^ 30) (v : Int64) {o : Int32} (m : Nat) {len ov : Int32} {w : Nat → Int32} {c : Option (List Int32)} (h8 : m ≤ 8) (hF : 8 < F) (h : CR cap o len ov (rb w) c) : ∃ r, fX8_addHighFirst F (nI cap) len ov nw w v (nI m) = some r ∧ CR cap o r.1 r.2.1 (rb r.2.2) (app cap c (hiL v m)) := by
  unfold fX8_addHighFirst nm
  rw [Int32.sub_eq_add_neg]
  exact high_loop F hc hn hn2 v m F len ov w c h8 (by omega) h
theorem low_loop (F : Nat) {cap nw : Nat} (hc : cap < 2 ^ 30) (hn : cap / 4 < nw) (hn2 : nw < 2 ^ 30) (v : Int64) {o : Int32} : ∀ (m n i : Nat) (len ov : Int32) (w : Nat → Int32) (c : Option (List Int32)), i + m ≤ 8 → m < n → CR cap o len ov (rb w) c → ∃ r, fX8_addLowFirst_b3 F (nI cap) nw v (nI (i + m)) n (nI i) len ov w = some r ∧ CR cap o r.1 r.2.1 (rb r.2.2) (app cap c (loL v i m)) := by
  intro m
  induction m with
  | zero =>
    intro n i len ov w c h8 hmn h
    cases n with
    | zero => omega
    | succ n =>
      unfold fX8_addLowFirst_b3
      rw [if_pos (nI_le (by omega) (by omega))]
      exact ⟨_, rfl, by rw [loL, app_nil h]; exact h⟩
  | succ m ih =>
    intro n i len ov w c h8 hmn h
    cases n with
    | zero => omega
    | succ n =>
      unfold fX8_addLowFirst_b3
      rw [if_neg (nI_ge (by omega) (by omega)), m8]
      obtain ⟨r, h1, h2⟩ := add_CR F hc hn hn2 h ((ushr64 v (nI (8 * i))).toInt32)
      rw [h1, Option.bind_some]
      obtain ⟨r2, h3, h4⟩ := ih n (i + 1) _ _ _ _ (by omega) (by omega) h2
      rw [app_app] at h4
      refine ⟨r2, ?_, h4⟩
      show fX8_addLowFirst_b3 F _ _ _ _ n (nI i + 1) _ _ _ = _
      rw [nI_1, show i + (m + 1) = i + 1 + m by omega]
      exact h3
theorem addLow_CR (F : Nat) {cap nw : Nat} (hc : cap < 2 ^ 30) (hn : cap / 4 < nw) (hn2 : nw < 2 ^ 30) (v : Int64) {o : Int32} (m : Nat) {len ov : Int32} {w : Nat → Int32} {c : Option (List Int32)} (h8 : m ≤ 8) (hF : 8 < F) (h : CR cap o len ov (rb w) c) : ∃ r, fX8_addLowFirst F (nI cap) len ov nw w v (nI m) = some r ∧ CR cap o r.1 r.2.1 (rb r.2.2) (app cap c (loL v 0 m)) := by
  have := low_loop F hc hn hn2 v m F 0 len ov w c (by omega) (by omega) h
  rw [Nat.zero_add] at this
  exact this
theorem part_loop (F : Nat) {cap nw : Nat} (hc : cap < 2 ^ 30) (hn : cap / 4 < nw) (hn2 : nw < 2 ^ 30) {S mw a t : Nat} {q : Nat → Int32} {o : Int32} (hS : S < 2 ^ 30) (hw : S ≤ 4 * mw) (hmw : mw < 2 ^ 30) (hat : a + t ≤ S) : ∀ (m n i : Nat) (len ov : Int32) (w : Nat → Int32) (c : Option (List Int32)), i + m = t → m < n → CR cap o len ov (rb w) c → ∃ r, fX8_addPart_b3 F (nI cap) nw (nI S) mw q (nI a) (nI t) n (nI i) len ov w = some r ∧ CR cap o r.1 r.2.1 (rb r.2.2) (app cap c (seg (rb q) (a + i) m)) := by
  intro m
  induction m with
  | zero =>
    intro n i len ov w c h8 hmn h
    cases n with
    | zero => omega
    | succ n =>
      unfold fX8_addPart_b3
      rw [if_pos (nI_le (by omega) (by omega))]
      exact ⟨_, rfl, by rw [seg, app_nil h]; exact h⟩
  | succ m ih =>
    intro n i len ov w c h8 hmn h
    cases n with
    | zero => omega
    | succ n =>
      unfold fX8_addPart_b3
      rw [if_neg (nI_ge (by omega) (by omega)), nI_add, at_in F (by omega) (by omega) (by omega) (by omega), Option.bind_some]
      obtain ⟨r, h1, h2⟩ := add_CR F hc hn hn2 h (rb q (a + i))
      rw [h1, Option.bind_some]
      obtain ⟨r2, h3, h4⟩ := ih n (i + 1) _ _ _ _ (by omega) (by omega) h2
      rw [app_app, rb_255] at h4
      refine ⟨r2, ?_, h4⟩
      show fX8_addPart_b3 F _ _ _ _ _ _ _ n (nI i + 1) _ _ _ = _
      rw [nI_1]
      exact h3
theorem addPart_CR (F : Nat) {cap nw : Nat} (hc : cap < 2 ^ 30) (hn : cap / 4 < nw) (hn2 : nw < 2 ^ 30) {S mw a t : Nat} {q : Nat → Int32} {o : Int32} (hS : S < 2 ^ 30) (hw : S ≤ 4 * mw) (hmw : mw < 2 ^ 30) (hat : a + t ≤ S) (hF : t < F) {len ov : Int32} {w : Nat → Int32} {c : Option (List Int32)} (h : CR cap o len ov (rb w) c) : ∃ r, fX8_addPart F (nI cap) len ov nw w (nI S) mw q (nI a) (nI t) = some r ∧ CR cap o r.1 r.2.1 (rb r.2.2) (app cap c (seg (rb q) a t)) := part_loop F hc hn hn2 hS hw hmw hat t F 0 len ov w c (by omega) hF h
theorem each_loop (F : Nat) {cap nw : Nat} (hc : cap < 2 ^ 30) (hn : cap / 4 < nw) (hn2 : nw < 2 ^ 30) {t : Nat} {q : Nat → Int32} {o : Int32} (ht : t < 2 ^ 30) : ∀ (m n i : Nat) (len ov : Int32) (w : Nat → Int32) (c : Option (List Int32)), i + m = t → m < n → CR cap o len ov (rb w) c → ∃ r, fX8_addEach_b2 F (nI cap) nw t q n (nI i) len ov w = some r ∧ CR cap o r.1 r.2.1 (rb r.2.2) (app cap c (seg (fun k => q k &&& 255) i m)) := by
  intro m
  induction m with
  | zero =>
    intro n i len ov w c h8 hmn h
    cases n with
    | zero => omega
    | succ n =>
      unfold fX8_addEach_b2
      rw [if_pos (nI_le (by omega) (by omega))]
      exact ⟨_, rfl, by rw [seg, app_nil h]; exact h⟩
  | succ m ih =>
    intro n i len ov w c h8 hmn h
    cases n with
    | zero => omega
    | succ n =>
      unfold fX8_addEach_b2
      rw [if_neg (nI_ge (by omega) (by omega)), if_pos (gin_nI (by omega) (by omega)), nI_clamp (by omega)]
      obtain ⟨r, h1, h2⟩ := add_CR F hc hn hn2 h (q i)
      rw [h1, Option.bind_some]
      obtain ⟨r2, h3, h4⟩ := ih n (i + 1) _ _ _ _ (by omega) (by omega) h2
      rw [app_app] at h4
      refine ⟨r2, ?_, h4⟩
      show fX8_addEach_b2 F _ _ _ _ n (nI i + 1) _ _ _ = _
      rw [nI_1]
      exact h3
theorem addEach_CR (F : Nat) {cap nw : Nat} (hc : cap < 2 ^ 30) (hn : cap / 4 < nw) (hn2 : nw < 2 ^ 30) {t : Nat} {q : Nat → Int32} {o : Int32} (ht : t < 2 ^ 30) (hF : t < F) {len ov : Int32} {w : Nat → Int32} {c : Option (List Int32)} (h : CR cap o len ov (rb w) c) : ∃ r, fX8_addEach F (nI cap) len ov nw w t q = some r ∧ CR cap o r.1 r.2.1 (rb r.2.2) (app cap c (seg (fun k => q k &&& 255) 0 t)) := each_loop F hc hn hn2 ht t F 0 len ov w c (by omega) hF h
theorem phigh_loop (F : Nat) (v : Int64) : ∀ (m n : Nat) (len ov : Int32) (w : Nat → Int32) (c : Option (List Int32)), m ≤ 8 → m < n → CR 6000 0 len ov (fun k => w k &&& 255) c → ∃ r, fX10_putHigh_b5 F v n (nI m + (-1)) len ov w = some r ∧ CR 6000 0 r.1 r.2.1 (fun k => r.2.2 k &&& 255) (app 6000 c (hiL v m)) := by
  intro m
  induction m with
  | zero =>
    intro n len ov w c h8 hmn h
    cases n with
    | zero => omega
    | succ n =>
      unfold fX10_putHigh_b5
      rw [if_pos (by decide)]
      exact ⟨_, rfl, by rw [hiL, app_nil h]; exact h⟩
  | succ m ih =>
    intro n len ov w c h8 hmn h
    cases n with
    | zero => omega
    | succ n =>
      unfold fX10_putHigh_b5
      rw [pk_m1, if_neg (nI_pos (by omega)), m8]
      obtain ⟨r, h1, h2⟩ := put_CR F h ((shr64 v (nI (8 * m))).toInt32)
      rw [h1, Option.bind_some]
      rw [hb_shr v (by omega)] at h2
      obtain ⟨r2, h3, h4⟩ := ih n _ _ _ _ (by omega) (by omega) h2
      rw [app_app] at h4
      exact ⟨r2, h3, h4⟩
theorem putHigh_CR (F : Nat) (v : Int64) (m : Nat) {len ov : Int32} {w : Nat → Int32} {c : Option (List Int32)} (h8 : m ≤ 8) (hF : 8 < F) (h : CR 6000 0 len ov (fun k => w k &&& 255) c) : ∃ r, fX10_putHigh F len ov w v (nI m) = some r ∧ CR 6000 0 r.1 r.2.1 (fun k => r.2.2 k &&& 255) (app 6000 c (hiL v m)) := by
  unfold fX10_putHigh nm
  rw [Int32.sub_eq_add_neg]
  exact phigh_loop F v m F len ov w c h8 (by omega) h
theorem plow_loop (F : Nat) (v : Int64) : ∀ (m n i : Nat) (len ov : Int32) (w : Nat → Int32) (c : Option (List Int32)), i + m ≤ 8 → m < n → CR 6000 0 len ov (fun k => w k &&& 255) c → ∃ r, fX10_putLow_b3 F v (nI (i + m)) n (nI i) len ov w = some r ∧ CR 6000 0 r.1 r.2.1 (fun k => r.2.2 k &&& 255) (app 6000 c (loL v i m)) := by
  intro m
  induction m with
  | zero =>
    intro n i len ov w c h8 hmn h
    cases n with
    | zero => omega
    | succ n =>
      unfold fX10_putLow_b3
      rw [if_pos (nI_le (by omega) (by omega))]
      exact ⟨_, rfl, by rw [loL, app_nil h]; exact h⟩
  | succ m ih =>
    intro n i len ov w c h8 hmn h
    cases n with
    | zero => omega
    | succ n =>
      unfold fX10_putLow_b3
      rw [if_neg (nI_ge (by omega) (by omega)), m8]
      obtain ⟨r, h1, h2⟩ := put_CR F h ((shr64 v (nI (8 * i))).toInt32)
      rw [h1, Option.bind_some]
      rw [hb_shr v (by omega)] at h2
      obtain ⟨r2, h3, h4⟩ := ih n (i + 1) _ _ _ _ (by omega) (by omega) h2
      rw [app_app] at h4
      refine ⟨r2, ?_, h4⟩
      show fX10_putLow_b3 F _ _ n (nI i + 1) _ _ _ = _
      rw [nI_1, show i + (m + 1) = i + 1 + m by omega]
      exact h3
theorem putLow_CR (F : Nat) (v : Int64) (m : Nat) {len ov : Int32} {w : Nat → Int32} {c : Option (List Int32)} (h8 : m ≤ 8) (hF : 8 < F) (h : CR 6000 0 len ov (fun k => w k &&& 255) c) : ∃ r, fX10_putLow F len ov w v (nI m) = some r ∧ CR 6000 0 r.1 r.2.1 (fun k => r.2.2 k &&& 255) (app 6000 c (loL v 0 m)) := by
  have := plow_loop F v m F 0 len ov w c (by omega) (by omega) h
  rw [Nat.zero_add] at this
  exact this
theorem prow_loop (F : Nat) {t : Nat} {q : Nat → Int32} (ht : t < 2 ^ 30) : ∀ (m n i : Nat) (len ov : Int32) (w : Nat → Int32) (c : Option (List Int32)), i + m = t → m < n → CR 6000 0 len ov (fun k => w k &&& 255) c → ∃ r, fX10_putRow_b2 F t q n (nI i) len ov w = some r ∧ CR 6000 0 r.1 r.2.1 (fun k => r.2.2 k &&& 255) (app 6000 c (seg (fun k => q k &&& 255) i m)) := by
  intro m
  induction m with
  | zero =>
    intro n i len ov w c h8 hmn h
    cases n with
    | zero => omega
    | succ n =>
      unfold fX10_putRow_b2
      rw [if_pos (nI_le (by omega) (by omega))]
      exact ⟨_, rfl, by rw [seg, app_nil h]; exact h⟩
  | succ m ih =>
    intro n i len ov w c h8 hmn h
    cases n with
    | zero => omega
    | succ n =>
      unfold fX10_putRow_b2
      rw [if_neg (nI_ge (by omega) (by omega)), if_pos (gin_nI (by omega) (by omega)), nI_clamp (by omega)]
      obtain ⟨r, h1, h2⟩ := put_CR F h (q i)
      rw [h1, Option.bind_some]
      obtain ⟨r2, h3, h4⟩ := ih n (i + 1) _ _ _ _ (by omega) (by omega) h2
      rw [app_app] at h4
      refine ⟨r2, ?_, h4⟩
      show fX10_putRow_b2 F _ _ n (nI i + 1) _ _ _ = _
      rw [nI_1]
      exact h3
theorem putRow_CR (F : Nat) {t : Nat} {q : Nat → Int32} (ht : t < 2 ^ 30) (hF : t < F) {len ov : Int32} {w : Nat → Int32} {c : Option (List Int32)} (h : CR 6000 0 len ov (fun k => w k &&& 255) c) : ∃ r, fX10_putRow F len ov w t q = some r ∧ CR 6000 0 r.1 r.2.1 (fun k => r.2.2 k &&& 255) (app 6000 c (seg (fun k => q k &&& 255) 0 t)) := prow_loop F ht t F 0 len ov w c (by omega) hF h
