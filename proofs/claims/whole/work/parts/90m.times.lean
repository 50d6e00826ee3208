-- the packets' times, and what a drawn file ends with
theorem ttw_loop (F : Nat) {N : Nat} {t mt : Nat → Int64} (hN : N ≤ 64) (heq : ∀ i, i < N → t i = mt i) : ∀ (m n n' : Nat), m ≤ N → m < n → m < n' → ∃ v, fX4_timeToWrite_b2 F (nI N) t n (nI m + (-1)) = some v ∧ fX10_timeOf_b2 F mt n' (nI m + (-1)) = some v := by
  intro m
  induction m with
  | zero =>
    intro n n' h1 h2 h3
    obtain ⟨a, rfl⟩ : ∃ a, n = a + 1 := ⟨n - 1, by omega⟩
    obtain ⟨b, rfl⟩ : ∃ b, n' = b + 1 := ⟨n' - 1, by omega⟩
    refine ⟨0, ?_, ?_⟩
    · rw [fX4_timeToWrite_b2, if_pos (by decide)]
    · rw [fX10_timeOf_b2, if_pos (by decide)]
      unfold fX10_timeOf_b25 fX10_timeOf_b39
      rw [if_neg (by decide)]
  | succ m ih =>
    intro n n' h1 h2 h3
    obtain ⟨a, rfl⟩ : ∃ a, n = a + 1 := ⟨n - 1, by omega⟩
    obtain ⟨b, rfl⟩ : ∃ b, n' = b + 1 := ⟨n' - 1, by omega⟩
    rw [pk_m1, fX4_timeToWrite_b2, fX10_timeOf_b2, if_neg (nI_pos (by omega)), if_neg (nI_pos (by omega)), timeOf_in F hN (by omega), if_pos (gin_nI (by omega) (by omega)), nI_clamp (by omega), ← heq m (by omega), Option.bind_some, Option.bind_some]
    by_cases c : t m = -1
    · rw [if_pos c, if_pos c, nm_eq, nm_eq]
      exact ih a b (by omega) (by omega) (by omega)
    · rw [if_neg c, if_neg c]
      refine ⟨t m, rfl, ?_⟩
      unfold fX10_timeOf_b25 fX10_timeOf_b39
      rw [if_pos (nI_pos' (by omega)), if_pos (gin_nI (by omega) (by omega)), nI_clamp (by omega), ← heq m (by omega)]
theorem time_eq (F : Nat) (hF : 100 < F) {N i : Nat} {t mt : Nat → Int64} (hN : N ≤ 64) (heq : ∀ i, i < N → t i = mt i) (hi : i < N) : ∃ v, fX4_timeToWrite F (nI N) t (nI i) = some v ∧ fX10_timeOf F mt (nI i) = some v := by
  have h := ttw_loop F hN heq (i + 1) F F (by omega) (by omega) (by omega)
  rw [pk_m1] at h
  exact h
def ordc (t : Nat → Int64) : Nat → Nat → Int64 → Bool
  | 0, _, _ => true
  | m + 1, i, l => if t i = -1 then ordc t m (i + 1) l else if l ≤ t i then ordc t m (i + 1) (t i) else false
theorem ord_c (F : Nat) {N : Nat} {t : Nat → Int64} (hN : N ≤ 64) : ∀ (m n i : Nat) (l : Int64), i + m = N → m < n → -1 ≤ l → (∀ j, j < N → -1 ≤ t j) → fX4_isInOrderOfTime_b6 F (nI N) t n (nI i) l = some (if ordc t m i l = true then 1 else 0) := by
  intro m
  induction m with
  | zero =>
    intro n i l h1 h2 h3 h4
    obtain ⟨a, rfl⟩ : ∃ a, n = a + 1 := ⟨n - 1, by omega⟩
    rw [fX4_isInOrderOfTime_b6, if_pos (nI_le (by omega) (by omega))]
    unfold ordc
    rw [if_pos rfl]
  | succ m ih =>
    intro n i l h1 h2 h3 h4
    obtain ⟨a, rfl⟩ : ∃ a, n = a + 1 := ⟨n - 1, by omega⟩
    rw [fX4_isInOrderOfTime_b6, if_neg (nI_ge (by omega) (by omega)), timeOf_in F hN (by omega), Option.bind_some, Option.bind_some]
    unfold ordc fX4_isInOrderOfTime_b38
    rw [timeOf_in F hN (by omega), Option.bind_some, nm_eq, nm_eq, nI_1]
    by_cases c : t i = -1
    · rw [if_pos c, if_pos c]
      have hm : (if t i < l then l else t i) = l := by
        by_cases c2 : t i < l
        · rw [if_pos c2]
        · rw [if_neg c2]
          exact Int64.le_antisymm (by rw [c]; exact h3) (Int64.not_lt.mp c2)
      rw [hm]
      exact ih a (i + 1) l (by omega) (by omega) h3 h4
    · rw [if_neg c, if_neg c]
      by_cases c2 : l ≤ t i
      · rw [if_pos c2, if_pos c2, if_neg (Int64.not_lt.mpr c2)]
        exact ih a (i + 1) (t i) (by omega) (by omega) (h4 i (by omega)) h4
      · rw [if_neg c2, if_neg c2, if_neg (by decide)]
theorem ord_r (F : Nat) {N : Nat} {t mt : Nat → Int64} (hN : N ≤ 64) (heq : ∀ i, i < N → t i = mt i) (om dm fm : Int32) (co cd ms : Nat → Int32) (mb : Nat → Int32) (p1 p2 p3 : Int32) : ∀ (m n i : Nat) (l : Int64), i + m = N → m < n → fX10_pages_b43 F om dm fm (nI N) co cd ms mt mb p1 p2 p3 n (nI i) l = if ordc t m i l = true then fX10_pages_b121 F om (nI N) co ms mt mb p1 p2 p3 F 0 0 0 0 0 0 cd else some (-1, om, dm, fm, co, cd) := by
  intro m
  induction m with
  | zero =>
    intro n i l h1 h2
    obtain ⟨a, rfl⟩ : ∃ a, n = a + 1 := ⟨n - 1, by omega⟩
    rw [fX10_pages_b43, if_pos (nI_le (by omega) (by omega))]
    unfold ordc
    rw [if_pos rfl]
  | succ m ih =>
    intro n i l h1 h2
    obtain ⟨a, rfl⟩ : ∃ a, n = a + 1 := ⟨n - 1, by omega⟩
    have hg := gin_nI (k := i) (n := 64) (by omega) (by omega)
    rw [fX10_pages_b43, if_neg (nI_ge (by omega) (by omega)), if_pos hg, if_pos hg, if_pos hg, nI_clamp (by omega), ← heq i (by omega), nm_eq]
    unfold ordc fX10_pages_b93
    rw [nm_eq, nm_eq, nI_1]
    by_cases c : t i = -1
    · rw [if_pos c, if_pos c]
      exact ih a (i + 1) l (by omega) (by omega)
    · rw [if_neg c, if_neg c]
      by_cases c2 : l ≤ t i
      · rw [if_pos c2, if_pos c2]
        exact ih a (i + 1) (t i) (by omega) (by omega)
      · rw [if_neg c2, if_neg c2, if_neg (by decide)]
theorem drawn_loop (F : Nat) {T : Nat} (hT : T ≤ 6000) (dr : Nat → Int32) : ∀ (m n i : Nat) (f : Nat → Int32), i + m = T → m < n → ∃ g, fX10_drawn_b11 F (nI T) dr n (nI i) f = some (nI T, nI T, g) ∧ ∀ j, g j &&& 255 = if i ≤ j ∧ j < T then dr j &&& 255 else f j &&& 255 := by
  intro m
  induction m with
  | zero =>
    intro n i f h1 h2
    obtain ⟨n', rfl⟩ : ∃ n', n = n' + 1 := ⟨n - 1, by omega⟩
    refine ⟨f, ?_, fun j => by rw [if_neg (by omega)]⟩
    rw [fX10_drawn_b11, if_pos (nI_le (by omega) (by omega))]
  | succ m ih =>
    intro n i f h1 h2
    obtain ⟨n', rfl⟩ : ∃ n', n = n' + 1 := ⟨n - 1, by omega⟩
    obtain ⟨g, d1, d2⟩ := ih n' (i + 1) (upd f i (dr i).toInt8.toInt32) (by omega) (by omega)
    refine ⟨g, ?_, fun j => ?_⟩
    · rw [fX10_drawn_b11, if_neg (nI_ge (by omega) (by omega)), if_pos (gin_nI (by omega) (by omega)), if_pos (gin_nI (by omega) (by omega))]
      simp only [nm_eq]
      rw [nI_clamp (by omega), nI_1, d1]
    · rw [d2 j, upd_app]
      by_cases c1 : i + 1 ≤ j ∧ j < T
      · rw [if_pos c1, if_pos (by omega)]
      · rw [if_neg c1]
        by_cases c2 : j = i
        · rw [if_pos c2, if_pos (by omega), bp_b0, c2]
        · rw [if_neg c2, if_neg (by omega)]
/-- the end of a drawing: the spare row, and the reference's draft, with the same contents -/
theorem draw_end (F : Nat) (hF : 6000 < F) {len ov md mf : Int32} {w dr : Nat → Int32} {c : Option (List Int32)} (h1 : CR 6000 0 len ov (rb w) c) (h2 : CR 6000 0 md mf (fun k => dr k &&& 255) c) (om : Int32) (co : Nat → Int32) (a_s a_o : Nat) : (fX9_takeSpareRow F len ov a_s a_o = some (-1, a_o, a_s) ∧ fX10_drawn F om md mf co dr = some (-1, om, co)) ∨ (fX9_takeSpareRow F len ov a_s a_o = some (len, a_s, a_o) ∧ ∃ g, fX10_drawn F om md mf co dr = some (len, len, g) ∧ RBy len w len g) := by
  unfold fX9_takeSpareRow fX10_drawn
  cases c with
  | none =>
    left
    rw [h1.2, h2.2, if_neg (by decide), if_neg (by decide)]
    exact ⟨rfl, rfl⟩
  | some L =>
    right
    obtain ⟨a1, a2, a3, a4⟩ := h1
    obtain ⟨b1, b2, b3, b4⟩ := h2
    rw [a3, b3, if_pos rfl, if_pos rfl, a2, b2]
    obtain ⟨g, d1, d2⟩ := drawn_loop F a1 dr L.length F 0 co (by omega) (by omega)
    have d1' : fX10_drawn_b11 F (nI L.length) dr F 0 co = _ := d1
    refine ⟨rfl, g, d1', L.length, a1, rfl, rfl, fun k hk => ?_⟩
    rw [d2 k, if_pos (by omega), a4 k _ (List.getElem?_eq_getElem hk)]
    exact (b4 k _ (List.getElem?_eq_getElem hk)).symm
-- wrappers for the target row (6000) and the draft
theorem lo8 (F : Nat) (hF : 6000 < F) (v : Int64) {len ov : Int32} {w : Nat → Int32} {c : Option (List Int32)} (h : CR 6000 0 len ov (rb w) c) : ∃ r, fX8_addLowFirst F 6000 len ov 1501 w v 8 = some r ∧ CR 6000 0 r.1 r.2.1 (rb r.2.2) (app 6000 c (loL v 0 8)) := addLow_CR F (cap := 6000) (nw := 1501) (by omega) (by omega) (by omega) v 8 (by omega) (by omega) h
theorem lo4 (F : Nat) (hF : 6000 < F) (v : Int64) {len ov : Int32} {w : Nat → Int32} {c : Option (List Int32)} (h : CR 6000 0 len ov (rb w) c) : ∃ r, fX8_addLowFirst F 6000 len ov 1501 w v 4 = some r ∧ CR 6000 0 r.1 r.2.1 (rb r.2.2) (app 6000 c (loL v 0 4)) := addLow_CR F (cap := 6000) (nw := 1501) (by omega) (by omega) (by omega) v 4 (by omega) (by omega) h
theorem hi4 (F : Nat) (hF : 6000 < F) (v : Int64) {len ov : Int32} {w : Nat → Int32} {c : Option (List Int32)} (h : CR 6000 0 len ov (rb w) c) : ∃ r, fX8_addHighFirst F 6000 len ov 1501 w v 4 = some r ∧ CR 6000 0 r.1 r.2.1 (rb r.2.2) (app 6000 c (hiL v 4)) := addHigh_CR F (cap := 6000) (nw := 1501) (by omega) (by omega) (by omega) v 4 (by omega) (by omega) h
theorem ad1 (F : Nat) (v : Int32) {len ov : Int32} {w : Nat → Int32} {c : Option (List Int32)} (h : CR 6000 0 len ov (rb w) c) : ∃ r, fX8_add F 6000 len ov 1501 w v = some r ∧ CR 6000 0 r.1 r.2.1 (rb r.2.2) (app 6000 c [v &&& 255]) := add_CR F (cap := 6000) (n := 1501) (by omega) (by omega) (by omega) h v
theorem plo8 (F : Nat) (hF : 6000 < F) (v : Int64) {len ov : Int32} {w : Nat → Int32} {c : Option (List Int32)} (h : CR 6000 0 len ov (fun k => w k &&& 255) c) : ∃ r, fX10_putLow F len ov w v 8 = some r ∧ CR 6000 0 r.1 r.2.1 (fun k => r.2.2 k &&& 255) (app 6000 c (loL v 0 8)) := putLow_CR F v 8 (by omega) (by omega) h
theorem plo4 (F : Nat) (hF : 6000 < F) (v : Int64) {len ov : Int32} {w : Nat → Int32} {c : Option (List Int32)} (h : CR 6000 0 len ov (fun k => w k &&& 255) c) : ∃ r, fX10_putLow F len ov w v 4 = some r ∧ CR 6000 0 r.1 r.2.1 (fun k => r.2.2 k &&& 255) (app 6000 c (loL v 0 4)) := putLow_CR F v 4 (by omega) (by omega) h
theorem phi4 (F : Nat) (hF : 6000 < F) (v : Int64) {len ov : Int32} {w : Nat → Int32} {c : Option (List Int32)} (h : CR 6000 0 len ov (fun k => w k &&& 255) c) : ∃ r, fX10_putHigh F len ov w v 4 = some r ∧ CR 6000 0 r.1 r.2.1 (fun k => r.2.2 k &&& 255) (app 6000 c (hiL v 4)) := putHigh_CR F v 4 (by omega) (by omega) h
theorem loL_len (v : Int64) : ∀ (m i : Nat), (loL v i m).length = m := by
  intro m
  induction m with
  | zero => intro i; rfl
  | succ m ih => intro i; rw [loL, List.length_cons, ih]
theorem hiL_len (v : Int64) : ∀ (m : Nat), (hiL v m).length = m := by
  intro m
  induction m with
  | zero => rfl
  | succ m ih => rw [hiL, List.length_cons, ih]
