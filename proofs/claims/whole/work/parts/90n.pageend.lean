-- a page's segments, and its end, on both sides
def nx (sz : Nat → Nat) (p : Nat × Nat) : Nat × Nat := if p.2 < sz p.1 / 255 then (p.1, p.2 + 1) else (p.1 + 1, 0)
def vl (sz : Nat → Nat) (p : Nat × Nat) : Nat := if p.2 < sz p.1 / 255 then 255 else sz p.1 - 255 * p.2
def itr (sz : Nat → Nat) (p : Nat × Nat) : Nat → Nat × Nat
  | 0 => p
  | s + 1 => nx sz (itr sz p s)
def bpos (sz : Nat → Nat) (p : Nat × Nat) : Nat := psum sz p.1 + 255 * p.2
theorem bpos_nx {sz : Nat → Nat} {p : Nat × Nat} (h : p.2 ≤ sz p.1 / 255) : bpos sz (nx sz p) = bpos sz p + vl sz p := by
  unfold bpos nx vl
  by_cases c : p.2 < sz p.1 / 255
  · rw [if_pos c, if_pos c]
    show psum sz p.1 + 255 * (p.2 + 1) = _
    omega
  · rw [if_neg c, if_neg c]
    show psum sz p.1 + sz p.1 + 255 * 0 = _
    omega
theorem bpos_itr {sz : Nat → Nat} {p : Nat × Nat} : ∀ (s : Nat), (∀ i, i < s → (itr sz p i).2 ≤ sz (itr sz p i).1 / 255) → ∀ i, i ≤ s → bpos sz (itr sz p i) ≤ bpos sz (itr sz p s) := by
  intro s
  induction s with
  | zero =>
    intro h i hi
    have : i = 0 := by omega
    rw [this]
    exact Nat.le_refl _
  | succ s ih =>
    intro h i hi
    rcases Nat.lt_or_ge i (s + 1) with q | q
    · have h1 := ih (fun j hj => h j (by omega)) i (by omega)
      have h2 := bpos_nx (h s (by omega))
      show _ ≤ bpos sz (nx sz (itr sz p s))
      omega
    · have : i = s + 1 := by omega
      rw [this]
      exact Nat.le_refl _
def sgf (sz : Nat → Nat) (p : Nat × Nat) (i : Nat) : Int32 := nI (vl sz (itr sz p i)) &&& 255
/-- the class: segments, body, sum -/
theorem c22 (F : Nat) (hF : 6000 < F) {T s z : Nat} {sz : Nat → Nat} {p : Nat × Nat} (hT : T ≤ 2400) (hs : s ≤ 255) {hs' lbw : Nat → Int32} (hin : ∀ i, i < s → (itr sz p i).2 ≤ sz (itr sz p i).1 / 255) (hhs : ∀ i, i < s → hs' i = nI (vl sz (itr sz p i))) (hz : z = bpos sz (itr sz p s)) (hzT : z ≤ T) {k0 : Nat} (hk0 : k0 ≤ 6000) (num p2 : Int32) (hp2 : isb p2 = true) : ∀ (m n i : Nat) (len ov : Int32) (w : Nat → Int32) (c : Option (List Int32)), i + m = s → m < n → CR 6000 0 len ov (rb w) c → (∀ L, app 6000 (app 6000 c (seg (sgf sz p) i m)) (seg (rb lbw) (bpos sz p) (z - bpos sz p)) = some L → k0 ≤ L.length) → ∃ (len' ov' : Int32) (w1 w' : Nat → Int32) (k1 : Nat), fX7_endPage_b22 F num (nI s) (nI (bpos sz p)) hs' (nI T) 601 lbw 6000 (nI k0) 1501 p2 n (nI i) (nI (bpos sz (itr sz p i))) len ov w = some (num + 1, 0, 0, -1, nI z, p2, len', ov', w') ∧ CR 6000 0 len' ov' (rb w1) (app 6000 (app 6000 c (seg (sgf sz p) i m)) (seg (rb lbw) (bpos sz p) (z - bpos sz p))) ∧ len' = nI k1 ∧ k0 ≤ k1 ∧ k1 ≤ 6000 ∧ ∀ j, j < k1 → rb w' j = if k0 + 22 ≤ j ∧ j < k0 + 26 then hb (crS (bw w1) k0 (k1 - k0)).toInt64 (j - k0 - 22) else rb w1 j := by
  intro m
  have hz0 : bpos sz p ≤ z := by rw [hz]; exact bpos_itr s hin 0 (by omega)
  induction m with
  | zero =>
    intro n i len ov w c h1 h2 h hk
    obtain ⟨n', rfl⟩ : ∃ n', n = n' + 1 := ⟨n - 1, by omega⟩
    have hi : i = s := by omega
    subst hi
    have h0 : CR 6000 0 len ov (rb w) (app 6000 c (seg (sgf sz p) i 0)) := by
      rw [seg, app_nil h]; exact h
    rw [← hz, fX7_endPage_b22, if_pos (nI_le (Nat.le_refl _) (by omega)), pk_sub (by omega)]
    obtain ⟨r, a1, a2⟩ := addPart_CR F (cap := 6000) (nw := 1501) (by omega) (by omega) (by omega) (S := T) (mw := 601) (a := bpos sz p) (t := z - bpos sz p) (q := lbw) (by omega) (by omega) (by omega) (by omega) (by omega) h0
    have a1' : fX8_addPart F 6000 len ov 1501 w (nI T) 601 lbw (nI (bpos sz p)) (nI (z - bpos sz p)) = some r := a1
    rw [a1', Option.bind_some]
    obtain ⟨k1, e1, e2, e3⟩ : ∃ k1 : Nat, r.1 = nI k1 ∧ k0 ≤ k1 ∧ k1 ≤ 6000 := by
      cases hX : app 6000 (app 6000 c (seg (sgf sz p) i 0)) (seg (rb lbw) (bpos sz p) (z - bpos sz p)) with
      | none =>
        rw [hX] at a2
        exact ⟨6000, a2.1, hk0, by omega⟩
      | some L =>
        have := hk L hX
        rw [hX] at a2
        exact ⟨L.length, a2.2.1, this, a2.1⟩
    obtain ⟨w', b1, b2⟩ := msr_bw F (T := k1) (nw := 1501) (k := k0) (t := k1 - k0) (w := r.2.2) (by omega) (by omega) (by omega) (by omega) (by omega) (by omega)
    rw [show k0 + (k1 - k0) = k1 by omega] at b1
    rw [e1, b1, Option.bind_some, nm_eq, if_pos hp2]
    unfold fX7_beginPage
    rw [Option.bind_some]
    refine ⟨nI k1, r.2.1, r.2.2, w', k1, rfl, ?_, rfl, e2, e3, b2⟩
    rw [← e1]
    exact a2
  | succ m ih =>
    intro n i len ov w c h1 h2 h hk
    obtain ⟨n', rfl⟩ : ∃ n', n = n' + 1 := ⟨n - 1, by omega⟩
    have hg := gin_nI (k := i) (n := 255) (by omega) (by omega)
    obtain ⟨r, a1, a2⟩ := ad1 F (hs' i) h
    have hbn := bpos_nx (hin i (by omega))
    have hf : [hs' i &&& 255] ++ seg (sgf sz p) (i + 1) m = seg (sgf sz p) i (m + 1) := by
      rw [seg, hhs i (by omega)]
      rfl
    obtain ⟨len', ov', w1, w', k1, d1, d2, d3, d4, d5, d6⟩ := ih n' (i + 1) r.1 r.2.1 r.2.2 (app 6000 c [hs' i &&& 255]) (by omega) (by omega) a2 (fun L hL => hk L (by rw [app_app 6000 c, hf] at hL; exact hL))
    rw [app_app 6000 c, hf] at d2
    refine ⟨len', ov', w1, w', k1, ?_, d2, d3, d4, d5, d6⟩
    rw [fX7_endPage_b22, if_neg (nI_ge (by omega) (by omega)), if_pos hg, nI_clamp (by omega), a1, Option.bind_some, if_pos hg, nm_eq, nm_eq, hhs i (by omega), nI_add, nI_1, ← hbn]
    exact d1
/-- the reference: segments -/
theorem r9 (F : Nat) {N s : Nat} {sz : Nat → Nat} {p : Nat × Nat} {ms : Nat → Int32} (hN : N ≤ 64) (hsz : ∀ i, i < N → sz i ≤ 2400) (hms : ∀ i, i < N → ms i = nI (sz i)) (hs : s ≤ 255) (hin : ∀ i, i < s → (itr sz p i).1 < N ∧ (itr sz p i).2 ≤ sz (itr sz p i).1 / 255) : ∀ (m n i : Nat) (md mf : Int32) (dr : Nat → Int32) (c : Option (List Int32)), i + m = s → m < n → CR 6000 0 md mf (fun k => dr k &&& 255) c → ∃ r, fX10_segmentsFrom_b9 F ms (nI s) n (nI i) (nI (255 * (itr sz p i).2)) (nI (itr sz p i).1) md mf dr = some r ∧ CR 6000 0 r.1 r.2.1 (fun k => r.2.2 k &&& 255) (app 6000 c (seg (sgf sz p) i m)) := by
  intro m
  induction m with
  | zero =>
    intro n i md mf dr c h1 h2 h
    obtain ⟨n', rfl⟩ : ∃ n', n = n' + 1 := ⟨n - 1, by omega⟩
    refine ⟨(md, mf, dr), ?_, by rw [seg, app_nil h]; exact h⟩
    rw [fX10_segmentsFrom_b9, if_pos (nI_le (by omega) (by omega))]
  | succ m ih =>
    intro n i md mf dr c h1 h2 h
    obtain ⟨n', rfl⟩ : ∃ n', n = n' + 1 := ⟨n - 1, by omega⟩
    obtain ⟨i1, i2⟩ := hin i (by omega)
    have hsi := hsz _ i1
    have hv : sgf sz p i = nI (vl sz (itr sz p i)) &&& 255 := rfl
    have hnx : itr sz p (i + 1) = nx sz (itr sz p i) := rfl
    generalize hq : itr sz p i = pi at i1 i2 hsi hv hnx
    obtain ⟨q, D⟩ := pi
    dsimp only at i1 i2 hsi ⊢
    have hD : 255 * D ≤ sz q := by omega
    rw [fX10_segmentsFrom_b9, if_neg (nI_ge (by omega) (by omega)), if_pos (gin_nI (n := 64) (by omega) (by omega)), nI_clamp (by omega), hms q i1, nm_eq, pk_sub hD]
    unfold fX10_segmentsFrom_b44 fX10_segmentsFrom_b70
    simp only [nm_eq, nI_1]
    rw [seg, ← List.singleton_append, ← app_app]
    by_cases cD : D < sz q / 255
    · have hx : ¬ nI (sz q - 255 * D) < 255 := by rw [i255]; exact nI_nlt (by omega) (by omega)
      have hn2 : nx sz (q, D) = (q, D + 1) := by unfold nx; rw [if_pos cD]
      have hv2 : vl sz (q, D) = 255 := by unfold vl; rw [if_pos cD]
      obtain ⟨r, a1, a2⟩ := put_CR F h 255
      rw [if_neg hx, a1, Option.bind_some, if_neg hx]
      rw [hv2, ← i255] at hv
      rw [← hv] at a2
      obtain ⟨r2, b1, b2⟩ := ih n' (i + 1) r.1 r.2.1 r.2.2 (app 6000 c [sgf sz p i]) (by omega) (by omega) a2
      rw [hnx, hn2] at b1
      refine ⟨r2, ?_, b2⟩
      rw [i255, nI_add]
      exact b1
    · have hx : nI (sz q - 255 * D) < 255 := by rw [i255]; exact nI_lt (by omega) (by omega)
      have hn2 : nx sz (q, D) = (q + 1, 0) := by unfold nx; rw [if_neg cD]
      have hv2 : vl sz (q, D) = sz q - 255 * D := by unfold vl; rw [if_neg cD]
      obtain ⟨r, a1, a2⟩ := put_CR F h (nI (sz q - 255 * D))
      rw [if_pos hx, a1, Option.bind_some, if_pos hx]
      rw [hv2] at hv
      rw [← hv] at a2
      obtain ⟨r2, b1, b2⟩ := ih n' (i + 1) r.1 r.2.1 r.2.2 (app 6000 c [sgf sz p i]) (by omega) (by omega) a2
      rw [hnx, hn2] at b1
      exact ⟨r2, b1, b2⟩
/-- the reference: the body -/
theorem r434 (F : Nat) {z : Nat} {mb : Nat → Int32} (hz : z ≤ 2400) (rc : Int32 → Int32 → Int32 → Int32 → Int32 → Int32 → (Nat → Int32) → Option (Int32 × Int32 × Int32 × Int32 × (Nat → Int32) × (Nat → Int32))) (l6 l7 l8 l9 l10 : Int32) : ∀ (m n a : Nat) (md mf : Int32) (dr : Nat → Int32) (c : Option (List Int32)), a + m = z → m < n → CR 6000 0 md mf (fun k => dr k &&& 255) c → ∃ r : Int32 × Int32 × (Nat → Int32), fX10_pages_b434 F mb rc n (nI a) (nI z) l6 l7 l8 l9 l10 md mf dr = (if r.2.1 = 0 then ((fX10_putSum F 6000 r.2.2 l10 (r.1 - l10)).bind fun o3 => fX10_pages_b481 F rc l6 l7 l8 l9 r.1 r.2.1 o3) else (fX10_pages_b481 F rc l6 l7 l8 l9 r.1 r.2.1 r.2.2)) ∧ CR 6000 0 r.1 r.2.1 (fun k => r.2.2 k &&& 255) (app 6000 c (seg (fun k => mb k &&& 255) a m)) := by
  intro m
  induction m with
  | zero =>
    intro n a md mf dr c h1 h2 h
    obtain ⟨n', rfl⟩ : ∃ n', n = n' + 1 := ⟨n - 1, by omega⟩
    refine ⟨(md, mf, dr), ?_, by rw [seg, app_nil h]; exact h⟩
    rw [fX10_pages_b434, if_pos (nI_le (by omega) (by omega))]
  | succ m ih =>
    intro n a md mf dr c h1 h2 h
    obtain ⟨n', rfl⟩ : ∃ n', n = n' + 1 := ⟨n - 1, by omega⟩
    obtain ⟨r, a1, a2⟩ := put_CR F h (mb a)
    obtain ⟨r2, b1, b2⟩ := ih n' (a + 1) r.1 r.2.1 r.2.2 _ (by omega) (by omega) a2
    rw [app_app] at b2
    refine ⟨r2, ?_, b2⟩
    rw [fX10_pages_b434, if_neg (nI_ge (by omega) (by omega)), if_pos (gin_nI (by omega) (by omega)), nI_clamp (by omega), a1, Option.bind_some, nm_eq, nI_1]
    exact b1
/-- the sum put into the same contents -/
theorem sealS (F : Nat) (hF : 6000 < F) {k t : Nat} {X : List Int32} (hX : X.length = k + t) (ht : 26 ≤ t) {len ov md mf : Int32} {w1 w' dr : Nat → Int32} (h1 : CR 6000 0 len ov (rb w1) (some X)) (h2 : CR 6000 0 md mf (fun j => dr j &&& 255) (some X)) (hw : ∀ j, j < k + t → rb w' j = if k + 22 ≤ j ∧ j < k + 26 then hb (crS (bw w1) k t).toInt64 (j - k - 22) else rb w1 j) : ∃ (X' : List Int32) (g : Nat → Int32), fX10_putSum F 6000 dr (nI k) (md - nI k) = some g ∧ CR 6000 0 len ov (rb w') (some X') ∧ CR 6000 0 md mf (fun j => g j &&& 255) (some X') := by
  obtain ⟨a1, a2, a3, a4⟩ := h1
  obtain ⟨b1, b2, b3, b4⟩ := h2
  have hag : ∀ j, j < k + t → dr j &&& 255 = rb w1 j := fun j hj => by
    have hj' : j < X.length := by omega
    rw [a4 j _ (List.getElem?_eq_getElem hj')]
    exact b4 j _ (List.getElem?_eq_getElem hj')
  obtain ⟨g, g1, g2⟩ := putSum_B F (by omega) (N := 6000) (k := k) (t := t) (f := dr) (B := bw w1) (by omega) (by omega) (by omega) (by omega) (fun j hj => by rw [hag _ (by omega), rb_bw])
  refine ⟨seg (rb w') 0 (k + t), g, ?_, ?_, ?_⟩
  · rw [b2, hX, pk_sub (by omega), show k + t - k = t by omega]
    exact g1
  · rw [a2, hX, a3]
    exact CR_seg (by omega) rfl (fun _ _ => rfl)
  · rw [b2, hX, b3]
    refine CR_seg (by omega) rfl (fun j hj => ?_)
    show g j &&& 255 = rb w' j
    rw [g2 j, hw j hj]
    by_cases q : k + 22 ≤ j ∧ j < k + 26
    · rw [if_pos q, if_pos q]
    · rw [if_neg q, if_neg q, hag j hj]
theorem oggs : hiL 1332176723 4 = [(79 : Int32) &&& 255] ++ ([(103 : Int32) &&& 255] ++ ([(103 : Int32) &&& 255] ++ [(83 : Int32) &&& 255])) := by decide +kernel
def fg (go : Int32) : Int32 := if go = 0 then 0 else 1
def fn (num : Int32) : Int32 := if num = 0 then 2 else 0
def fl (last : Int32) : Int32 := if last = 0 then 0 else 4
theorem hdr_c (F : Nat) (serial num sg LE go pk len ov last : Int32) (pt : Nat → Int64) (tw : Nat → Int32) : fX7_putHeader F serial num sg LE go pk pt 6000 len ov 1501 tw last = fX7_putHeader_b38 F serial num sg LE pk pt 6000 len ov 1501 tw (fl last) (fg go ||| fn num) := by
  unfold fX7_putHeader fX7_putHeader_b12 fX7_putHeader_b26 fl fg fn
  simp only [nm_eq]
  by_cases c1 : go = 0
  · by_cases c2 : num = 0
    · by_cases c3 : last = 0
      · simp only [if_pos c1, if_pos c2, if_pos c3]
      · simp only [if_pos c1, if_pos c2, if_neg c3]
    · by_cases c3 : last = 0
      · simp only [if_pos c1, if_neg c2, if_pos c3]
      · simp only [if_pos c1, if_neg c2, if_neg c3]
  · by_cases c2 : num = 0
    · by_cases c3 : last = 0
      · simp only [if_neg c1, if_pos c2, if_pos c3]
      · simp only [if_neg c1, if_pos c2, if_neg c3]
    · by_cases c3 : last = 0
      · simp only [if_neg c1, if_neg c2, if_pos c3]
      · simp only [if_neg c1, if_neg c2, if_neg c3]
theorem hdr_r (F : Nat) {hm l6 last : Int32} (hl : (last = 0 ∧ ¬ l6 = hm) ∨ (last = 1 ∧ l6 = hm)) (ms mb : Nat → Int32) (mt : Nat → Int64) (p1 : Int32) (rc : Int32 → Int32 → Int32 → Int32 → Int32 → Int32 → (Nat → Int32) → Option (Int32 × Int32 × Int32 × Int32 × (Nat → Int32) × (Nat → Int32))) (l7 l8 num l10 l12 l13 l14 l15 l16 go md mf : Int32) (dr : Nat → Int32) : (if go = 0 then (fX10_pages_b329 F hm ms mt mb p1 rc l6 l7 l8 num l10 l12 l13 l14 l15 l16 0 md mf dr) else (fX10_pages_b329 F hm ms mt mb p1 rc l6 l7 l8 num l10 l12 l13 l14 l15 l16 1 md mf dr)) = fX10_pages_b354 F ms mt mb p1 rc l6 l7 l8 num l10 l12 l13 l14 l15 l16 (fl last) (fg go + fn num) md mf dr := by
  unfold fX10_pages_b329 fX10_pages_b339 fl fg fn
  rcases hl with ⟨h1, h2⟩ | ⟨h1, h2⟩
  · by_cases c1 : go = 0
    · by_cases c2 : num = 0
      · simp only [if_pos c1, if_pos c2, if_pos h1, if_neg h2]
      · simp only [if_pos c1, if_neg c2, if_pos h1, if_neg h2]
    · by_cases c2 : num = 0
      · simp only [if_neg c1, if_pos c2, if_pos h1, if_neg h2]
      · simp only [if_neg c1, if_neg c2, if_pos h1, if_neg h2]
  · have h3 : ¬ last = 0 := by rw [h1]; decide
    by_cases c1 : go = 0
    · by_cases c2 : num = 0
      · simp only [if_pos c1, if_pos c2, if_neg h3, if_pos h2]
      · simp only [if_pos c1, if_neg c2, if_neg h3, if_pos h2]
    · by_cases c2 : num = 0
      · simp only [if_neg c1, if_pos c2, if_neg h3, if_pos h2]
      · simp only [if_neg c1, if_neg c2, if_neg h3, if_pos h2]
theorem flags_eq (go num last : Int32) : fg go + fn num + fl last = (fg go ||| fn num) ||| fl last := by
  unfold fg fn fl
  by_cases c1 : go = 0
  · by_cases c2 : num = 0
    · by_cases c3 : last = 0
      · simp only [if_pos c1, if_pos c2, if_pos c3]; decide
      · simp only [if_pos c1, if_pos c2, if_neg c3]; decide
    · by_cases c3 : last = 0
      · simp only [if_pos c1, if_neg c2, if_pos c3]; decide
      · simp only [if_pos c1, if_neg c2, if_neg c3]; decide
  · by_cases c2 : num = 0
    · by_cases c3 : last = 0
      · simp only [if_neg c1, if_pos c2, if_pos c3]; decide
      · simp only [if_neg c1, if_pos c2, if_neg c3]; decide
    · by_cases c3 : last = 0
      · simp only [if_neg c1, if_neg c2, if_pos c3]; decide
      · simp only [if_neg c1, if_neg c2, if_neg c3]; decide
theorem pg_end (F : Nat) (hF : 6000 < F) {N T : Nat} {sz : Nat → Nat} {ms mb lbw hs : Nat → Int32} {t mt : Nat → Int64} (hN : N ≤ 64) (hT : T ≤ 2400) (hsz : ∀ i, i < N → sz i ≤ 2400) (hms : ∀ i, i < N → ms i = nI (sz i)) (hti : ∀ i, i < N → t i = mt i) (hby : ∀ k, k < T → rb lbw k = mb k &&& 255) {q0 D0 s q D : Nat} (hit : itr sz (q0, D0) s = (q, D)) (hs1 : s ≤ 255) (hin : ∀ i, i < s → (itr sz (q0, D0) i).1 < N ∧ (itr sz (q0, D0) i).2 ≤ sz (itr sz (q0, D0) i).1 / 255) (hhs : ∀ i, i < s → hs i = nI (vl sz (itr sz (q0, D0) i))) (hbT : bpos sz (q, D) ≤ T) (hq : q ≤ N) {E : Nat} (hE : E ≤ 255) {LE last go : Int32} (hLE : (E = 0 ∧ LE = -1) ∨ (0 < E ∧ 0 < q ∧ LE = nI (q - 1))) (hlast : (last = 0 ∧ ¬ q = N) ∨ (last = 1 ∧ q = N)) (serial num p2 : Int32) (hp2 : isb p2 = true) {len ov : Int32} {tw : Nat → Int32} {c : Option (List Int32)} (hc : CR 6000 0 len ov (rb tw) c) : ∃ (len' ov' : Int32) (w' : Nat → Int32) (c1 : Option (List Int32)), fX7_endPage F serial num (nI s) LE (nI (bpos sz (q0, D0))) go hs (nI N) (nI T) 601 lbw t 6000 len ov 1501 tw last p2 = some (num + 1, 0, 0, -1, nI (bpos sz (q, D)), p2, len', ov', w') ∧ CR 6000 0 len' ov' (rb w') c1 ∧ (c = none → c1 = none) ∧ ∀ (L : List Int32) (md mf : Int32) (dr : Nat → Int32), c = some L → CR 6000 0 md mf (fun k => dr k &&& 255) c → ∀ (rc : Int32 → Int32 → Int32 → Int32 → Int32 → Int32 → (Nat → Int32) → Option (Int32 × Int32 × Int32 × Int32 × (Nat → Int32) × (Nat → Int32))) (n : Nat) (pa pb : Int32), ∃ (md' mf' : Int32) (dr' : Nat → Int32), fX10_pages_b176 F (nI N) ms mt mb serial pa pb rc (n + 1) 0 (nI E) (nI s) (nI (psum sz q0)) (nI (255 * D0)) (nI q0) go (nI q) (nI (255 * D)) (nI (psum sz q)) num md md mf dr = fX10_pages_b481 F rc (nI q) (nI (255 * D)) (nI (psum sz q)) num md' mf' dr' ∧ CR 6000 0 md' mf' (fun k => dr' k &&& 255) c1 := by
  obtain ⟨k0, hk0, hlen⟩ : ∃ k0 : Nat, k0 ≤ 6000 ∧ len = nI k0 := by
    cases c with
    | none => exact ⟨6000, by omega, hc.1⟩
    | some L => exact ⟨L.length, hc.1, hc.2.1⟩
  have hz0 : bpos sz (q0, D0) ≤ bpos sz (q, D) := by
    rw [← hit]; exact bpos_itr s (fun i hi => (hin i hi).2) 0 (by omega)
  obtain ⟨tm, htm1, htm2⟩ : ∃ tm : Int64, (∀ (a b : Int32) (x : Nat → Int32), (if LE = (-1) then (fX7_putHeader_b96 F serial num (nI s) 6000 1501 (-1) a b x) else ((fX4_timeToWrite F (nI N) t LE).bind fun o6 => fX7_putHeader_b96 F serial num (nI s) 6000 1501 o6 a b x)) = fX7_putHeader_b96 F serial num (nI s) 6000 1501 tm a b x) ∧ (∀ (rc : Int32 → Int32 → Int32 → Int32 → Int32 → Int32 → (Nat → Int32) → Option (Int32 × Int32 × Int32 × Int32 × (Nat → Int32) × (Nat → Int32))) (a b l10 : Int32) (x : Nat → Int32), (if nI E = 0 then (fX10_pages_b378 F ms mb serial rc (nI q) (nI (255 * D)) (nI (psum sz q)) num l10 (nI q0) (nI (255 * D0)) (nI (psum sz q0)) (nI s) (-1) x a b) else ((fX10_timeOf F mt (nI q - 1)).bind fun o3 => fX10_pages_b378 F ms mb serial rc (nI q) (nI (255 * D)) (nI (psum sz q)) num l10 (nI q0) (nI (255 * D0)) (nI (psum sz q0)) (nI s) o3 x a b)) = fX10_pages_b378 F ms mb serial rc (nI q) (nI (255 * D)) (nI (psum sz q)) num l10 (nI q0) (nI (255 * D0)) (nI (psum sz q0)) (nI s) tm x a b) := by
    rcases hLE with ⟨h1, h2⟩ | ⟨h1, h2, h3⟩
    · refine ⟨-1, fun a b x => by rw [if_pos h2], fun rc a b l10 x => ?_⟩
      rw [h1, if_pos nI_0]
    · obtain ⟨v, v1, v2⟩ := time_eq F (by omega) hN hti (i := q - 1) (by omega)
      refine ⟨v, fun a b x => ?_, fun rc a b l10 x => ?_⟩
      · rw [if_neg (by rw [h3]; exact m1_eq (by omega)), h3, v1, Option.bind_some]
      · have hq1 : nI q - 1 = nI (q - 1) := by
          obtain ⟨q', rfl⟩ : ∃ q', q = q' + 1 := ⟨q - 1, by omega⟩
          exact nI_pred q'
        rw [if_neg (nI_ne0 h1 (by omega)), hq1, v2, Option.bind_some]
  -- the class
  obtain ⟨r1, a1, c1⟩ := hi4 F hF 1332176723 hc
  obtain ⟨r2, a2, c2⟩ := ad1 F 0 c1
  obtain ⟨r3, a3, c3⟩ := ad1 F ((fg go ||| fn num) ||| fl last) c2
  obtain ⟨r4, a4, c4⟩ := lo8 F hF tm c3
  obtain ⟨r5, a5, c5⟩ := lo4 F hF serial.toInt64 c4
  obtain ⟨r6, a6, c6⟩ := lo4 F hF num.toInt64 c5
  obtain ⟨r7, a7, c7⟩ := lo4 F hF 0 c6
  obtain ⟨r8, a8, c8⟩ := ad1 F (nI s) c7
  have hhd : fX7_putHeader F serial num (nI s) LE go (nI N) t 6000 len ov 1501 tw last = some (r8.1, r8.2.1, r8.2.2) := by
    rw [hdr_c]
    unfold fX7_putHeader_b38
    rw [nm_eq, a1, Option.bind_some, a2, Option.bind_some, a3, Option.bind_some, htm1]
    unfold fX7_putHeader_b96
    rw [a4, Option.bind_some, a5, Option.bind_some, a6, Option.bind_some, a7, Option.bind_some, a8, Option.bind_some]
  obtain ⟨PG, hPG⟩ : ∃ PG : List Int32, PG = hiL 1332176723 4 ++ ([0 &&& 255] ++ ([((fg go ||| fn num) ||| fl last) &&& 255] ++ (loL tm 0 8 ++ (loL serial.toInt64 0 4 ++ (loL num.toInt64 0 4 ++ (loL 0 0 4 ++ ([nI s &&& 255] ++ (seg (sgf sz (q0, D0)) 0 s ++ seg (rb lbw) (bpos sz (q0, D0)) (bpos sz (q, D) - bpos sz (q0, D0)))))))))) := ⟨_, rfl⟩
  have hPGl : 27 ≤ PG.length := by
    rw [hPG]
    simp only [List.length_append, hiL_len, loL_len, seg_len, List.length_cons, List.length_nil]
    omega
  have hkL : ∀ L, app 6000 c PG = some L → k0 ≤ L.length := by
    intro L hL
    cases c with
    | none => rw [app_none] at hL; exact absurd hL (by intro h; cases h)
    | some L0 =>
      rw [app_some] at hL
      by_cases cc : L0.length + PG.length ≤ 6000
      · rw [if_pos cc] at hL
        have : L0 ++ PG = L := Option.some.inj hL
        have h3 := hc.2.1
        rw [hlen] at h3
        have := nI_inj (by omega) (by omega) h3
        rw [← Option.some.inj hL, List.length_append]
        omega
      · rw [if_neg cc] at hL; exact absurd hL (by intro h; cases h)
  obtain ⟨len', ov', w1, w', k1, d1, d2, d3, d4, d5, d6⟩ := c22 F hF (T := T) (s := s) (z := bpos sz (q, D)) (sz := sz) (p := (q0, D0)) hT hs1 (hs' := hs) (lbw := lbw) (fun i hi => (hin i hi).2) hhs (by rw [hit]) hbT hk0 num p2 hp2 s F 0 r8.1 r8.2.1 r8.2.2 _ (by omega) (by omega) c8 (fun L hL => hkL L (by simp only [app_app, List.append_assoc] at hL; rw [← hPG] at hL; exact hL))
  simp only [app_app, List.append_assoc] at d2
  rw [← hPG] at d2
  have hcls : fX7_endPage F serial num (nI s) LE (nI (bpos sz (q0, D0))) go hs (nI N) (nI T) 601 lbw t 6000 len ov 1501 tw last p2 = some (num + 1, 0, 0, -1, nI (bpos sz (q, D)), p2, len', ov', w') := by
    unfold fX7_endPage
    rw [hhd, Option.bind_some, hlen]
    exact d1
  -- the reference, as far as the sum
  have href : ∀ (md mf : Int32) (dr : Nat → Int32), CR 6000 0 md mf (fun k => dr k &&& 255) c → ∀ (rc : Int32 → Int32 → Int32 → Int32 → Int32 → Int32 → (Nat → Int32) → Option (Int32 × Int32 × Int32 × Int32 × (Nat → Int32) × (Nat → Int32))) (n : Nat) (pa pb : Int32), ∃ r : Int32 × Int32 × (Nat → Int32), fX10_pages_b176 F (nI N) ms mt mb serial pa pb rc (n + 1) 0 (nI E) (nI s) (nI (psum sz q0)) (nI (255 * D0)) (nI q0) go (nI q) (nI (255 * D)) (nI (psum sz q)) num md md mf dr = (if r.2.1 = 0 then ((fX10_putSum F 6000 r.2.2 md (r.1 - md)).bind fun o3 => fX10_pages_b481 F rc (nI q) (nI (255 * D)) (nI (psum sz q)) num r.1 r.2.1 o3) else (fX10_pages_b481 F rc (nI q) (nI (255 * D)) (nI (psum sz q)) num r.1 r.2.1 r.2.2)) ∧ CR 6000 0 r.1 r.2.1 (fun k => r.2.2 k &&& 255) (app 6000 c PG) := by
    intro md mf dr hc' rc n pa pb
    obtain ⟨s1, b1, g1⟩ := put_CR F hc' 79
    obtain ⟨s2, b2, g2⟩ := put_CR F g1 103
    obtain ⟨s3, b3, g3⟩ := put_CR F g2 103
    obtain ⟨s4, b4, g4⟩ := put_CR F g3 83
    rw [app_app, app_app, app_app, ← oggs] at g4
    obtain ⟨s5, b5, g5⟩ := put_CR F g4 0
    obtain ⟨s6, b6, g6⟩ := put_CR F g5 (fg go + fn num + fl last)
    rw [flags_eq] at g6
    obtain ⟨s7, b7, g7⟩ := plo8 F hF tm g6
    obtain ⟨s8, b8, g8⟩ := plo4 F hF serial.toInt64 g7
    obtain ⟨s9, b9, g9⟩ := plo4 F hF num.toInt64 g8
    obtain ⟨s10, b10, g10⟩ := plo4 F hF 0 g9
    obtain ⟨s11, b11, g11⟩ := put_CR F g10 (nI s)
    obtain ⟨s12, b12, g12⟩ := r9 F (sz := sz) (p := (q0, D0)) hN hsz hms hs1 hin s F 0 s11.1 s11.2.1 s11.2.2 _ (by omega) (by omega) g11
    have b12' : fX10_segmentsFrom_b9 F ms (nI s) F 0 (nI (255 * D0)) (nI q0) s11.1 s11.2.1 s11.2.2 = some s12 := b12
    obtain ⟨s13, b13, g13⟩ := r434 F (z := bpos sz (q, D)) (mb := mb) (by omega) rc (nI q) (nI (255 * D)) (nI (psum sz q)) num md (bpos sz (q, D) - bpos sz (q0, D0)) F (bpos sz (q0, D0)) s12.1 s12.2.1 s12.2.2 _ (by omega) (by omega) g12
    have hsg : seg (fun k => mb k &&& 255) (bpos sz (q0, D0)) (bpos sz (q, D) - bpos sz (q0, D0)) = seg (rb lbw) (bpos sz (q0, D0)) (bpos sz (q, D) - bpos sz (q0, D0)) := seg_congr _ _ (fun k h1 h2 => (hby k (by omega)).symm)
    rw [hsg] at g13
    simp only [app_app, List.append_assoc] at g13
    rw [← hPG] at g13
    refine ⟨s13, ?_, g13⟩
    rw [fX10_pages_b176, if_pos (rfl : (0 : Int32) = 0), b1, Option.bind_some, b2, Option.bind_some, b3, Option.bind_some, b4, Option.bind_some, b5, Option.bind_some, hdr_r F (last := last) (by
      rcases hlast with ⟨h1, h2⟩ | ⟨h1, h2⟩
      · exact Or.inl ⟨h1, by rw [nI_eq (by omega) (by omega)]; exact h2⟩
      · exact Or.inr ⟨h1, by rw [h2]⟩)]
    unfold fX10_pages_b354
    rw [b6, Option.bind_some, htm2]
    unfold fX10_pages_b378 fX10_segmentsFrom
    rw [b7, Option.bind_some, b8, Option.bind_some, b9, Option.bind_some, b10, Option.bind_some, b11, Option.bind_some, b12', Option.bind_some, nm_eq, nm_eq, nI_add, nI_add]
    exact b13
  cases hX : app 6000 c PG with
  | none =>
    refine ⟨len', ov', w', none, hcls, ?_, fun _ => rfl, ?_⟩
    · rw [hX] at d2; exact d2
    · intro L md mf dr hL hc' rc n pa pb
      obtain ⟨r, e1, e2⟩ := href md mf dr hc' rc n pa pb
      rw [hX] at e2
      refine ⟨r.1, r.2.1, r.2.2, ?_, e2⟩
      rw [e1, if_neg (by rw [e2.2]; decide)]
  | some X =>
    have hL0 : ∃ L0, c = some L0 := by
      cases c with
      | none => rw [app_none] at hX; cases hX
      | some L0 => exact ⟨L0, rfl⟩
    obtain ⟨L0, rfl⟩ := hL0
    have hXL : X = L0 ++ PG := by
      rw [app_some] at hX
      by_cases cc : L0.length + PG.length ≤ 6000
      · rw [if_pos cc] at hX; exact (Option.some.inj hX).symm
      · rw [if_neg cc] at hX; cases hX
    have hk0L : k0 = L0.length := by
      have h3 := hc.2.1
      rw [hlen] at h3
      exact nI_inj (by omega) (by have := hc.1; omega) h3
    have hXl : X.length = k0 + PG.length := by rw [hXL, List.length_append, hk0L]
    rw [hX] at d2
    have hk1 : k1 = k0 + PG.length := by
      have h3 := d2.2.1
      rw [d3] at h3
      have := nI_inj (by omega) (by have := d2.1; omega) h3
      omega
    rw [hk1, show k0 + PG.length - k0 = PG.length by omega] at d6
    -- the contents behind the sum
    refine ⟨len', ov', w', some (seg (rb w') 0 (k0 + PG.length)), hcls, ?_, (fun h => by cases h), ?_⟩
    · rw [d3, hk1, d2.2.2.1]
      exact CR_seg (by have := d2.1; omega) rfl (fun _ _ => rfl)
    · intro L md mf dr hL hc' rc n pa pb
      obtain ⟨r, e1, e2⟩ := href md mf dr hc' rc n pa pb
      rw [hX] at e2
      obtain ⟨X', g, s1, s2, s3⟩ := sealS F hF hXl (by omega) d2 e2 d6
      have hmd : md = nI k0 := by rw [hc'.2.1, hk0L]
      have hXX : X' = seg (rb w') 0 (k0 + PG.length) := by
        have l1 : X'.length = k0 + PG.length := by
          have h3 := s2.2.1
          rw [d3] at h3
          have := nI_inj (by omega) (by have := s2.1; omega) h3
          omega
        refine List.ext_getElem? (fun j => ?_)
        rcases Nat.lt_or_ge j (k0 + PG.length) with hj | hj
        · rw [seg_get _ _ _ _ hj, Nat.zero_add, List.getElem?_eq_getElem (by omega)]
          exact congrArg some (s2.2.2.2 j _ (List.getElem?_eq_getElem (by omega))).symm
        · rw [List.getElem?_eq_none (by omega), List.getElem?_eq_none (by rw [seg_len]; omega)]
      refine ⟨r.1, r.2.1, g, ?_, by rw [← hXX]; exact s3⟩
      rw [e1, if_pos e2.2.2.1, hmd, s1, Option.bind_some]
