-- a block on both sides
def xiL (l : Nat) (sz : Nat → Nat) (p i : Nat) : List Int32 := if l = 1 then smL (sz i) else if l = 3 then (if i = p then szL (sz i) else dfL (nI (sz i) - nI (sz (i - 1))).toInt64) else []
def lac (l : Nat) (sz : Nat → Nat) (p : Nat) : Nat → Nat → List Int32
  | 0, _ => []
  | m + 1, i => xiL l sz p i ++ lac l sz p m (i + 1)
theorem lac_snoc (l : Nat) (sz : Nat → Nat) (p : Nat) : ∀ (m i : Nat), lac l sz p (m + 1) i = lac l sz p m i ++ xiL l sz p (i + m) := by
  intro m
  induction m with
  | zero =>
    intro i
    rw [lac, lac, lac, List.append_nil, List.nil_append, Nat.add_zero]
  | succ m ih =>
    intro i
    rw [lac, ih (i + 1), lac, List.append_assoc, show i + 1 + m = i + (m + 1) by omega]
theorem xi_len (l : Nat) (sz : Nat → Nat) (p i : Nat) : 255 * (xiL l sz p i).length ≤ sz i + 510 := by
  unfold xiL
  by_cases c1 : l = 1
  · rw [if_pos c1, smL_len]; omega
  · rw [if_neg c1]
    by_cases c3 : l = 3
    · rw [if_pos c3]
      by_cases c : i = p
      · rw [if_pos c, szL_len]; have := szn_le (sz i); omega
      · rw [if_neg c, dfL_len]; have := dfn_le (nI (sz i) - nI (sz (i - 1))).toInt64; omega
    · rw [if_neg c3]; simp only [List.length_nil]; omega
theorem lac_len (l : Nat) (sz : Nat → Nat) (p : Nat) : ∀ (m i : Nat), 255 * (lac l sz p m i).length + psum sz i ≤ psum sz (i + m) + 510 * m := by
  intro m
  induction m with
  | zero => intro i; simp only [lac, Nat.add_zero, List.length_nil]; omega
  | succ m ih =>
    intro i
    have h1 := ih (i + 1)
    have h2 := xi_len l sz p i
    have h3 : psum sz (i + 1) = psum sz i + sz i := rfl
    rw [lac, List.length_append, show i + (m + 1) = i + 1 + m by omega]
    omega
theorem CR_list {cap : Nat} {o len ov : Int32} {rd : Nat → Int32} {H : List Int32} (h : CR cap o len ov rd (some H)) : seg rd 0 H.length = H := by
  refine List.ext_getElem? (fun j => ?_)
  rcases Nat.lt_or_ge j H.length with hj | hj
  · rw [seg_get _ _ _ _ hj, Nat.zero_add, List.getElem?_eq_getElem hj]
    exact congrArg some (h.2.2.2 j _ (List.getElem?_eq_getElem hj))
  · rw [List.getElem?_eq_none hj, List.getElem?_eq_none (by rw [seg_len]; exact hj)]
theorem app64 {c : Option (List Int32)} {H X : List Int32} (hc : c = some H) (h : H.length + X.length ≤ 64) : app 64 c X = some (H ++ X) := by rw [hc, app_some, if_pos h]
/-- what a block puts, its header H given -/
def blkB (sz : Nat → Nat) (pbw : Nat → Int32) (p cnt : Nat) (H : List Int32) : List Int32 := (([(163 : Int32) &&& 255] ++ szL (H.length + (psum sz (p + cnt) - psum sz p))) ++ H) ++ seg (rb pbw) (psum sz p) (psum sz (p + cnt) - psum sz p)
theorem c74 (F : Nat) (hF : 6000 < F) {N T p cnt l : Nat} {sz : Nat → Nat} {pbw pe : Nat → Int32} (hN : N ≤ 64) (hT : T ≤ 2400) (hps : psum sz N = T) (he : ∀ i, i < N → pe i = nI (psum sz (i + 1))) (hp : p + cnt ≤ N) (hcnt : 1 ≤ cnt) (hl : l < 4) {tl to : Int32} {tw : Nat → Int32} {c : Option (List Int32)} (hc : CR 6000 0 tl to (rb tw) c) : ∀ (m n i : Nat) (hl' ho : Int32) (hw : Nat → Int32) (H : List Int32), i + m + 1 = p + cnt → p ≤ i → m < n → CR 64 0 hl' ho (rb hw) (some H) → H.length + (lac l sz p m i).length ≤ 64 → ∃ r, fX2_putBlock_b74 F 64 17 (nI N) (nI T) 601 pbw pe 6000 tl to 1501 tw (nI p) (nI cnt) n (nI i) (nI l) hl' ho hw = some r ∧ CR 6000 0 r.2.2.2.1 r.2.2.2.2.1 (rb r.2.2.2.2.2) (app 6000 c (blkB sz pbw p cnt (H ++ lac l sz p m i))) := by
  have hsz : ∀ i, i < N → sz i ≤ 2400 := by
    intro i hi
    have h1 := psum_le (sz := sz) (show i + 1 ≤ N by omega)
    have h2 : psum sz (i + 1) = psum sz i + sz i := rfl
    omega
  have hpp := psum_le (sz := sz) (show p ≤ p + cnt by omega)
  have hpN := psum_le (sz := sz) hp
  have hend : nI p + nI cnt - 1 = nI (p + cnt - 1) := by
    obtain ⟨k, rfl⟩ : ∃ k, cnt = k + 1 := ⟨cnt - 1, by omega⟩
    rw [nI_add, show p + (k + 1) = (p + k) + 1 by omega, nI_pred]
    rfl
  intro m
  induction m with
  | zero =>
    intro n i hl' ho hw H h1 h2 h3 hH hHl
    obtain ⟨n', rfl⟩ : ∃ n', n = n' + 1 := ⟨n - 1, by omega⟩
    rw [lac, List.append_nil]
    have hH64 := hH.1
    obtain ⟨r1, a1, c1⟩ := ad1 F 163 hc
    obtain ⟨r2, a2, c2⟩ := cputSize F (by omega) (cap := 6000) (nw := 1501) (by omega) (by omega) (by omega) (x := H.length + (psum sz (p + cnt) - psum sz p)) (by omega) c1
    obtain ⟨r3, a3, c3⟩ := addPart_CR F (cap := 6000) (nw := 1501) (by omega) (by omega) (by omega) (S := H.length) (mw := 17) (a := 0) (t := H.length) (q := hw) (by omega) (by omega) (by omega) (by omega) (by omega) c2
    obtain ⟨r4, a4, c4⟩ := addPart_CR F (cap := 6000) (nw := 1501) (by omega) (by omega) (by omega) (S := T) (mw := 601) (a := psum sz p) (t := psum sz (p + cnt) - psum sz p) (q := pbw) (by omega) (by omega) (by omega) (by omega) (by omega) c3
    rw [CR_list hH] at c4
    have c4' : CR 6000 0 r4.1 r4.2.1 (rb r4.2.2) (app 6000 c (blkB sz pbw p cnt H)) := by
      unfold blkB
      simp only [app_app, List.append_assoc] at c4 ⊢
      exact c4
    have a2' : fX2_putSize F 6000 r1.1 r1.2.1 1501 r1.2.2 (lN (H.length + (psum sz (p + cnt) - psum sz p))) = some r2 := a2
    have a3' : fX8_addPart F 6000 r2.1 r2.2.1 1501 r2.2.2 (nI H.length) 17 hw 0 (nI H.length) = some r3 := a3
    have a4' : fX8_addPart F 6000 r3.1 r3.2.1 1501 r3.2.2 (nI T) 601 pbw (nI (psum sz p)) (nI (psum sz (p + cnt) - psum sz p)) = some r4 := a4
    refine ⟨(hl', ho, hw, r4.1, r4.2.1, r4.2.2), ?_, c4'⟩
    rw [fX2_putBlock_b74, hend, if_pos (nI_le (by omega) (by omega)), beginOf_in F hN (by omega) he, Option.bind_some, nI_add, beginOf_in F hN hp he, Option.bind_some, nm_eq, pk_sub hpp, a1, Option.bind_some, hH.2.1, nI_add, nI_l (by omega), a2', Option.bind_some, a3', Option.bind_some, a4', Option.bind_some]
  | succ m ih =>
    intro n i hl' ho hw H h1 h2 h3 hH hHl
    obtain ⟨n', rfl⟩ : ∃ n', n = n' + 1 := ⟨n - 1, by omega⟩
    rw [lac] at hHl ⊢
    rw [List.length_append] at hHl
    have hsi := hsz i (by omega)
    rw [← List.append_assoc]
    have hstep : ∃ r : Int32 × Int32 × (Nat → Int32), fX2_putBlock_b74 F 64 17 (nI N) (nI T) 601 pbw pe 6000 tl to 1501 tw (nI p) (nI cnt) (n' + 1) (nI i) (nI l) hl' ho hw = fX2_putBlock_b74 F 64 17 (nI N) (nI T) 601 pbw pe 6000 tl to 1501 tw (nI p) (nI cnt) n' (nI (i + 1)) (nI l) r.1 r.2.1 r.2.2 ∧ CR 64 0 r.1 r.2.1 (rb r.2.2) (some (H ++ xiL l sz p i)) := by
      have h64 : ∀ (X : List Int32), X = xiL l sz p i → app 64 (some H) X = some (H ++ xiL l sz p i) := by
        intro X hX
        rw [hX]
        exact app64 rfl (by omega)
      rw [fX2_putBlock_b74, hend, if_neg (nI_ge (by omega) (by omega))]
      unfold fX2_putBlock_b138 fX2_putBlock_b170
      simp only [nm_eq, nI_1]
      by_cases l1 : l = 1
      · have hx : smL (sz i) = xiL l sz p i := by unfold xiL; rw [if_pos l1]
        obtain ⟨r, b1, b2⟩ := cputSum F (by omega) (cap := 64) (nw := 17) (by omega) (by omega) (by omega) hsi hH
        rw [h64 _ hx] at b2
        have b1' : fX2_putSummedSize F 64 hl' ho 17 hw (nI (sz i)) = some r := b1
        refine ⟨r, ?_, b2⟩
        rw [if_pos (by rw [l1]; rfl), bytesOf_in F hN (by omega) he, Option.bind_some, b1', Option.bind_some]
      · have hl1 : ¬ nI l = 1 := by rw [i1, nI_eq (by omega) (by omega)]; exact l1
        rw [if_neg hl1]
        by_cases l3 : l = 3
        · have hl3 : nI l = 3 := by rw [l3]; rfl
          rw [if_pos hl3, if_pos hl3]
          by_cases ci : i = p
          · have hx : szL (sz i) = xiL l sz p i := by unfold xiL; rw [if_neg l1, if_pos l3, if_pos ci]
            obtain ⟨r, b1, b2⟩ := cputSize F (by omega) (cap := 64) (nw := 17) (by omega) (by omega) (by omega) (x := sz i) (by omega) hH
            rw [h64 _ hx] at b2
            have b1' : fX2_putSize F 64 hl' ho 17 hw (lN (sz i)) = some r := b1
            refine ⟨r, ?_, b2⟩
            rw [if_pos (by rw [ci]), bytesOf_in F hN (by omega) he, Option.bind_some, nI_l (by omega), b1', Option.bind_some]
          · have hx : dfL (nI (sz i) - nI (sz (i - 1))).toInt64 = xiL l sz p i := by unfold xiL; rw [if_neg l1, if_pos l3, if_neg ci]
            have hsi1 := hsz (i - 1) (by omega)
            obtain ⟨db1, db2⟩ := dif_b hsi hsi1
            obtain ⟨r, b1, b2⟩ := cputDiff F (by omega) (cap := 64) (nw := 17) (by omega) (by omega) (by omega) db1 db2 hH
            rw [h64 _ hx] at b2
            have b1' : fX2_putDifference F 64 hl' ho 17 hw (nI (sz i) - nI (sz (i - 1))).toInt64 = some r := b1
            have hpr : nI i - 1 = nI (i - 1) := by
              obtain ⟨k, rfl⟩ : ∃ k, i = k + 1 := ⟨i - 1, by omega⟩
              exact nI_pred k
            refine ⟨r, ?_, b2⟩
            rw [if_neg (by rw [nI_eq (by omega) (by omega)]; exact ci), bytesOf_in F hN (by omega) he, Option.bind_some, hpr, bytesOf_in F hN (by omega) he, Option.bind_some, b1', Option.bind_some]
        · have hx : ([] : List Int32) = xiL l sz p i := by unfold xiL; rw [if_neg l1, if_neg l3]
          have hl3 : ¬ nI l = 3 := by rw [i3, nI_eq (by omega) (by omega)]; exact l3
          rw [if_neg hl3, if_neg hl3]
          refine ⟨(hl', ho, hw), rfl, ?_⟩
          rw [← hx, List.append_nil]
          exact hH
    obtain ⟨r, s1, s2⟩ := hstep
    rw [s1]
    exact ih n' (i + 1) r.1 r.2.1 r.2.2 (H ++ xiL l sz p i) (by omega) (by omega) (by omega) s2 (by rw [List.length_append]; omega)
def fb (l : Nat) : Int32 := (128 : Int32) ||| (nI l <<< ((1 : Int32) &&& 31))
theorem fb_eq : ∀ l, l < 4 → (128 : Int32) + (2 : Int32) * nI l = fb l := by decide +kernel
def hdL (d : Int64) (l cnt : Nat) : List Int32 := ([(129 : Int32) &&& 255] ++ (hiL d 2 ++ [fb l &&& 255])) ++ (if l = 0 then [] else [nI (cnt - 1) &&& 255])
theorem hdL_len (d : Int64) (l cnt : Nat) : (hdL d l cnt).length = if l = 0 then 4 else 5 := by
  unfold hdL
  by_cases c : l = 0
  · rw [if_pos c, if_pos c]
    simp only [List.length_append, hiL_len, List.length_cons, List.length_nil]
  · rw [if_neg c, if_neg c]
    simp only [List.length_append, hiL_len, List.length_cons, List.length_nil]
def blkL (sz : Nat → Nat) (pbw : Nat → Int32) (p cnt l : Nat) (d : Int64) : List Int32 := blkB sz pbw p cnt (hdL d l cnt ++ lac l sz p (cnt - 1) p)
theorem lac_small {sz : Nat → Nat} {N T p cnt : Nat} (l : Nat) (hT : T ≤ 2400) (hps : psum sz N = T) (hp : p + cnt ≤ N) (hc8 : cnt ≤ 8) (i m : Nat) (hi : p ≤ i) (hm : i + m ≤ p + cnt) : (lac l sz p m i).length ≤ 30 := by
  have h1 := lac_len l sz p m i
  have h2 := psum_le (sz := sz) (show i + m ≤ N by omega)
  omega
theorem blk_c (F : Nat) (hF : 6000 < F) {N T p cnt l l0 : Nat} {sz : Nat → Nat} {pbw pe : Nat → Int32} (hN : N ≤ 64) (hT : T ≤ 2400) (hps : psum sz N = T) (he : ∀ i, i < N → pe i = nI (psum sz (i + 1))) (hp : p + cnt ≤ N) (hcnt : 1 ≤ cnt) (hc8 : cnt ≤ 8) (hl0 : l0 < 4) (hl : l = if cnt = 1 then 0 else l0) (d : Int64) (hkw : Nat → Int32) {tl to : Int32} {tw : Nat → Int32} {c : Option (List Int32)} (hc : CR 6000 0 tl to (rb tw) c) : ∃ r, fX2_putBlock F (nI l0) 64 17 hkw (nI N) (nI T) 601 pbw pe 6000 tl to 1501 tw (nI p) (nI cnt) d = some r ∧ CR 6000 0 r.2.2.2.1 r.2.2.2.2.1 (rb r.2.2.2.2.2) (app 6000 c (blkL sz pbw p cnt l d)) := by
  have hl4 : l < 4 := by
    rw [hl]
    by_cases q : cnt = 1
    · rw [if_pos q]; omega
    · rw [if_neg q]; exact hl0
  have h13 : fX2_putBlock F (nI l0) 64 17 hkw (nI N) (nI T) 601 pbw pe 6000 tl to 1501 tw (nI p) (nI cnt) d = fX2_putBlock_b13 F 64 17 hkw (nI N) (nI T) 601 pbw pe 6000 tl to 1501 tw (nI p) (nI cnt) d (nI l) := by
    unfold fX2_putBlock
    by_cases q : cnt = 1
    · rw [if_pos (by rw [q]; rfl), hl, if_pos q, nI_0]
    · rw [if_neg (by rw [i1, nI_eq (by omega) (by omega)]; exact q), hl, if_neg q]
  rw [h13]
  have h0 : CR 64 0 0 0 (rb hkw) (some []) := ⟨Nat.zero_le _, rfl, rfl, fun k x h => by cases h⟩
  have e64 : ∀ (H X : List Int32), H.length + X.length ≤ 64 → app 64 (some H) X = some (H ++ X) := fun H X h => app64 rfl h
  obtain ⟨r1, a1, c1⟩ := add_CR F (cap := 64) (n := 17) (by omega) (by omega) (by omega) h0 129
  obtain ⟨r2, a2, c2⟩ := (hi_g F (by omega) (cap := 64) (nw := 17) (by omega) (by omega) (by omega) d c1).2
  obtain ⟨r3, a3, c3⟩ := add_CR F (cap := 64) (n := 17) (by omega) (by omega) (by omega) c2 (fb l)
  rw [app_app, app_app, e64 _ _ (by simp only [List.length_append, hiL_len, List.length_cons, List.length_nil]; omega), List.nil_append] at c3
  have a1' : fX8_add F 64 0 0 17 hkw 129 = some r1 := a1
  have a2' : fX8_addHighFirst F 64 r1.1 r1.2.1 17 r1.2.2 d 2 = some r2 := a2
  have a3' : fX8_add F 64 r2.1 r2.2.1 17 r2.2.2 ((128 : Int32) ||| (nI l <<< ((1 : Int32) &&& 31))) = some r3 := a3
  have hsm := lac_small l hT hps hp hc8 p (cnt - 1) (Nat.le_refl _) (by omega)
  unfold fX2_putBlock_b13 fX8_empty
  rw [Option.bind_some]
  dsimp only
  rw [a1', Option.bind_some, a2', Option.bind_some, a3', Option.bind_some]
  unfold fX2_putBlock_b71 blkL
  by_cases q : l = 0
  · have hh : hdL d l cnt = [(129 : Int32) &&& 255] ++ (hiL d 2 ++ [fb l &&& 255]) := by unfold hdL; rw [if_pos q, List.append_nil]
    rw [if_pos (by rw [q]; exact nI_0), hh]
    exact c74 F hF hN hT hps he hp hcnt hl4 hc (cnt - 1) F p r3.1 r3.2.1 r3.2.2 _ (by omega) (Nat.le_refl _) (by omega) c3 (by simp only [List.length_append, hiL_len, List.length_cons, List.length_nil]; omega)
  · have hcm : nI cnt - 1 = nI (cnt - 1) := by
      obtain ⟨k, rfl⟩ : ∃ k, cnt = k + 1 := ⟨cnt - 1, by omega⟩
      exact nI_pred k
    obtain ⟨r4, a4, c4⟩ := add_CR F (cap := 64) (n := 17) (by omega) (by omega) (by omega) c3 (nI (cnt - 1))
    rw [e64 _ _ (by simp only [List.length_append, hiL_len, List.length_cons, List.length_nil]; omega)] at c4
    have a4' : fX8_add F 64 r3.1 r3.2.1 17 r3.2.2 (nI (cnt - 1)) = some r4 := a4
    have hh : hdL d l cnt = ([(129 : Int32) &&& 255] ++ (hiL d 2 ++ [fb l &&& 255])) ++ [nI (cnt - 1) &&& 255] := by unfold hdL; rw [if_neg q]
    rw [if_neg (nI_ne0 (by omega) (by omega)), hcm, a4', Option.bind_some, hh]
    exact c74 F hF hN hT hps he hp hcnt hl4 hc (cnt - 1) F p r4.1 r4.2.1 r4.2.2 _ (by omega) (Nat.le_refl _) (by omega) c4 (by simp only [List.length_append, hiL_len, List.length_cons, List.length_nil]; omega)
-- the reference's block
theorem r395 (F : Nat) {z : Nat} {mb : Nat → Int32} (hz : z ≤ 2400) : ∀ (m n a : Nat) (md mf : Int32) (dr : Nat → Int32) (c : Option (List Int32)), a + m = z → m < n → CR 6000 0 md mf (fun k => dr k &&& 255) c → ∃ r : Int32 × Int32 × (Nat → Int32), fX10_putBlock_b395 F mb n (nI a) (nI z) md mf dr = some r ∧ CR 6000 0 r.1 r.2.1 (fun k => r.2.2 k &&& 255) (app 6000 c (seg (fun k => mb k &&& 255) a m)) := by
  intro m
  induction m with
  | zero =>
    intro n a md mf dr c h1 h2 h
    obtain ⟨n', rfl⟩ : ∃ n', n = n' + 1 := ⟨n - 1, by omega⟩
    refine ⟨(md, mf, dr), ?_, by rw [seg, app_nil h]; exact h⟩
    rw [fX10_putBlock_b395, if_pos (nI_le (by omega) (by omega))]
  | succ m ih =>
    intro n a md mf dr c h1 h2 h
    obtain ⟨n', rfl⟩ : ∃ n', n = n' + 1 := ⟨n - 1, by omega⟩
    obtain ⟨r, a1, a2⟩ := put_CR F h (mb a)
    obtain ⟨r2, b1, b2⟩ := ih n' (a + 1) r.1 r.2.1 r.2.2 _ (by omega) (by omega) a2
    rw [app_app] at b2
    refine ⟨r2, ?_, b2⟩
    rw [fX10_putBlock_b395, if_neg (nI_ge (by omega) (by omega)), if_pos (gin_nI (by omega) (by omega)), nI_clamp (by omega), a1, Option.bind_some, nm_eq, nI_1]
    exact b1
theorem r366 (F : Nat) {N p cnt : Nat} {sz : Nat → Nat} {ms mb : Nat → Int32} (hN : N ≤ 64) (hms : ∀ i, i < N → ms i = nI (sz i)) (hp : p + cnt ≤ N) (p3 md mf : Int32) (dr : Nat → Int32) : ∀ (m n i : Nat), i + m = cnt → m < n → fX10_putBlock_b366 F ms mb (nI p) (nI cnt) p3 n (nI i) (nI (psum sz (p + i))) md mf dr = fX10_putBlock_b395 F mb F p3 (nI (psum sz (p + cnt))) md mf dr := by
  intro m
  induction m with
  | zero =>
    intro n i h1 h2
    obtain ⟨n', rfl⟩ : ∃ n', n = n' + 1 := ⟨n - 1, by omega⟩
    rw [fX10_putBlock_b366, if_pos (nI_le (by omega) (by omega)), show i = cnt by omega]
  | succ m ih =>
    intro n i h1 h2
    obtain ⟨n', rfl⟩ : ∃ n', n = n' + 1 := ⟨n - 1, by omega⟩
    rw [fX10_putBlock_b366, if_neg (nI_ge (by omega) (by omega)), nm_eq, nI_add, if_pos (gin_nI (by omega) (by omega)), nI_clamp (by omega), hms _ (by omega), nm_eq, nm_eq, nI_add, nI_1]
    exact ih n' (i + 1) (by omega) (by omega)
theorem r195 (F : Nat) (hF : 6000 < F) {N T p cnt l : Nat} {sz : Nat → Nat} {ms mb : Nat → Int32} (hN : N ≤ 64) (hT : T ≤ 2400) (hps : psum sz N = T) (hms : ∀ i, i < N → ms i = nI (sz i)) (hp : p + cnt ≤ N) (hcnt : 1 ≤ cnt) (hl : l < 4) : ∀ (m n i : Nat) (md mf : Int32) (dr : Nat → Int32) (c : Option (List Int32)), i + m + 1 = cnt → m < n → CR 6000 0 md mf (fun k => dr k &&& 255) c → ∃ r : Int32 × Int32 × (Nat → Int32), fX10_putBlock_b195 F ms mb (nI p) (nI cnt) (nI (psum sz p)) (nI l) n (nI i) md mf dr = some r ∧ CR 6000 0 r.1 r.2.1 (fun k => r.2.2 k &&& 255) (app 6000 c (lac l sz p m (p + i) ++ seg (fun k => mb k &&& 255) (psum sz p) (psum sz (p + cnt) - psum sz p))) := by
  have hsz : ∀ i, i < N → sz i ≤ 2400 := by
    intro i hi
    have h1 := psum_le (sz := sz) (show i + 1 ≤ N by omega)
    have h2 : psum sz (i + 1) = psum sz i + sz i := rfl
    omega
  have hpp := psum_le (sz := sz) (show p ≤ p + cnt by omega)
  have hpN := psum_le (sz := sz) hp
  have hend : nI cnt - 1 = nI (cnt - 1) := by
    obtain ⟨k, rfl⟩ : ∃ k, cnt = k + 1 := ⟨cnt - 1, by omega⟩
    exact nI_pred k
  intro m
  induction m with
  | zero =>
    intro n i md mf dr c h1 h2 h
    obtain ⟨n', rfl⟩ : ∃ n', n = n' + 1 := ⟨n - 1, by omega⟩
    rw [fX10_putBlock_b195, hend, if_pos (nI_le (by omega) (by omega)), lac, List.nil_append]
    have h366 := r366 F (sz := sz) (ms := ms) (mb := mb) hN hms hp (nI (psum sz p)) md mf dr cnt F 0 (by omega) (by omega)
    have h366' : fX10_putBlock_b366 F ms mb (nI p) (nI cnt) (nI (psum sz p)) F 0 (nI (psum sz p)) md mf dr = _ := h366
    rw [h366']
    exact r395 F (by omega) _ F _ md mf dr c (by omega) (by omega) h
  | succ m ih =>
    intro n i md mf dr c h1 h2 h
    obtain ⟨n', rfl⟩ : ∃ n', n = n' + 1 := ⟨n - 1, by omega⟩
    have hsi := hsz (p + i) (by omega)
    rw [lac, List.append_assoc, ← app_app]
    have hstep : ∃ r : Int32 × Int32 × (Nat → Int32), fX10_putBlock_b195 F ms mb (nI p) (nI cnt) (nI (psum sz p)) (nI l) (n' + 1) (nI i) md mf dr = fX10_putBlock_b195 F ms mb (nI p) (nI cnt) (nI (psum sz p)) (nI l) n' (nI (i + 1)) r.1 r.2.1 r.2.2 ∧ CR 6000 0 r.1 r.2.1 (fun k => r.2.2 k &&& 255) (app 6000 c (xiL l sz p (p + i))) := by
      rw [fX10_putBlock_b195, hend, if_neg (nI_ge (by omega) (by omega))]
      by_cases l1 : l = 1
      · have hx : xiL l sz p (p + i) = smL (sz (p + i)) := by unfold xiL; rw [if_pos l1]
        obtain ⟨r, b1, b2⟩ := rsum212 F (ms := ms) (p := p) (i := i) (x := sz (p + i)) (by omega) (hms _ (by omega)) hsi (fX10_putBlock_b195 F ms mb (nI p) (nI cnt) (nI (psum sz p)) (nI l) n') (sz (p + i) / 255) F 0 md mf dr c (by omega) (by omega) h
        have b1' : fX10_putBlock_b212 F ms (nI p) (fX10_putBlock_b195 F ms mb (nI p) (nI cnt) (nI (psum sz p)) (nI l) n') F 0 (nI i) md mf dr = _ := b1
        refine ⟨r, ?_, by rw [hx]; exact b2⟩
        rw [if_pos (by rw [l1]; rfl), b1']
        unfold fX10_putBlock_b354
        rw [nm_eq, nI_1]
      · have hl1 : ¬ nI l = 1 := by rw [i1, nI_eq (by omega) (by omega)]; exact l1
        rw [if_neg hl1]
        unfold fX10_putBlock_b288 fX10_putBlock_b354
        simp only [nm_eq, nI_1, nI_add]
        by_cases l3 : l = 3
        · have hl3 : nI l = 3 := by rw [l3]; rfl
          rw [if_pos hl3, if_pos hl3]
          by_cases ci : i = 0
          · have hx : xiL l sz p (p + i) = szL (sz (p + i)) := by unfold xiL; rw [if_neg l1, if_pos l3, if_pos (by omega)]
            obtain ⟨r, b1, b2⟩ := rputSize F (by omega) (x := sz (p + i)) (by omega) h
            refine ⟨r, ?_, by rw [hx]; exact b2⟩
            have hpi : p + i = p := by omega
            rw [if_pos (by rw [ci]; exact nI_0), if_pos (gin_nI (k := p) (n := 64) (by omega) (by omega)), nI_clamp (by omega), hms p (by omega), nI_l (by have := hsz p (by omega); omega)]
            rw [hpi] at b1
            rw [b1, Option.bind_some]
          · have hx : xiL l sz p (p + i) = dfL (nI (sz (p + i)) - nI (sz (p + i - 1))).toInt64 := by unfold xiL; rw [if_neg l1, if_pos l3, if_neg (by omega)]
            have hsi1 := hsz (p + i - 1) (by omega)
            obtain ⟨db1, db2⟩ := dif_b hsi hsi1
            obtain ⟨r, b1, b2⟩ := rputDiff F (by omega) db1 db2 h
            have hpr : nI (p + i) - 1 = nI (p + i - 1) := by
              obtain ⟨k, hk⟩ : ∃ k, p + i = k + 1 := ⟨p + i - 1, by omega⟩
              rw [hk]
              exact nI_pred k
            refine ⟨r, ?_, by rw [hx]; exact b2⟩
            rw [if_neg (nI_ne0 (by omega) (by omega)), if_pos (gin_nI (k := p + i) (n := 64) (by omega) (by omega)), hpr, if_pos (gin_nI (k := p + i - 1) (n := 64) (by omega) (by omega)), nI_clamp (by omega), nI_clamp (by omega), hms (p + i) (by omega), hms (p + i - 1) (by omega), rsignedLength F (by omega) db1 db2, Option.bind_some, b1, Option.bind_some]
        · have hx : xiL l sz p (p + i) = [] := by unfold xiL; rw [if_neg l1, if_neg l3]
          have hl3 : ¬ nI l = 3 := by rw [i3, nI_eq (by omega) (by omega)]; exact l3
          rw [if_neg hl3, if_neg hl3]
          refine ⟨(md, mf, dr), rfl, ?_⟩
          rw [hx, app_nil h]
          exact h
    obtain ⟨r, s1, s2⟩ := hstep
    rw [s1]
    exact ih n' (i + 1) r.1 r.2.1 r.2.2 _ (by omega) (by omega) s2
theorem hb_tr (v : Int64) {i : Nat} (hi : i < 4) : hb v.toInt32.toInt64 i = hb v i := by
  refine b_ext (fun j hj => ?_)
  rw [hb_bt _ (by omega) hj, hb_bt _ (by omega) hj]
  by_cases c : j < 8
  · rw [bl_i32 _ (by omega), if_pos (by omega), bt_i64 _ (by omega)]
  · rw [show decide (j < 8) = false from decide_eq_false c, Bool.and_false, Bool.and_false]
theorem hiL_tr (v : Int64) : hiL v.toInt32.toInt64 2 = hiL v 2 := by
  show [hb v.toInt32.toInt64 1, hb v.toInt32.toInt64 0] = [hb v 1, hb v 0]
  rw [hb_tr v (by omega), hb_tr v (by omega)]
theorem xi_n (l : Nat) (sz : Nat → Nat) (p i : Nat) : (xiL l sz p i).length = if l = 1 then sz i / 255 + 1 else if l = 3 then (if i = p then szn (sz i) else dfn (nI (sz i) - nI (sz (i - 1))).toInt64) else 0 := by
  unfold xiL
  by_cases c1 : l = 1
  · rw [if_pos c1, if_pos c1, smL_len]
  · rw [if_neg c1, if_neg c1]
    by_cases c3 : l = 3
    · rw [if_pos c3, if_pos c3]
      by_cases c : i = p
      · rw [if_pos c, if_pos c, szL_len]
      · rw [if_neg c, if_neg c, dfL_len]
    · rw [if_neg c3, if_neg c3]
      rfl
theorem r19 (F : Nat) (hF : 6000 < F) {N T p cnt l : Nat} {sz : Nat → Nat} {ms mb : Nat → Int32} (hN : N ≤ 64) (hT : T ≤ 2400) (hps : psum sz N = T) (hms : ∀ i, i < N → ms i = nI (sz i)) (hp : p + cnt ≤ N) (hcnt : 1 ≤ cnt) (hc8 : cnt ≤ 8) (hl : l < 4) (h0 : Nat) (md mf p3 p4 : Int32) (dr : Nat → Int32) : ∀ (m n i j : Nat), i + m = cnt → j = (if i = cnt then cnt - 1 else i) → ∀ n, fX10_putBlock_b19 F md mf dr ms mb (nI p) (nI cnt) p3 p4 (nI l) (n + m) (nI i) (lN (h0 + (psum sz (p + i) - psum sz p) + (lac l sz p j p).length)) = fX10_putBlock_b19 F md mf dr ms mb (nI p) (nI cnt) p3 p4 (nI l) n (nI cnt) (lN (h0 + (psum sz (p + cnt) - psum sz p) + (lac l sz p (cnt - 1) p).length)) := by
  have hsz : ∀ i, i < N → sz i ≤ 2400 := by
    intro i hi
    have h1 := psum_le (sz := sz) (show i + 1 ≤ N by omega)
    have h2 : psum sz (i + 1) = psum sz i + sz i := rfl
    omega
  have hend : nI cnt - 1 = nI (cnt - 1) := by
    obtain ⟨k, rfl⟩ : ∃ k, cnt = k + 1 := ⟨cnt - 1, by omega⟩
    exact nI_pred k
  intro m
  induction m with
  | zero =>
    intro n i j h1 hj n
    have hi : i = cnt := by omega
    rw [if_pos hi] at hj
    rw [hj, hi]
    rfl
  | succ m ih =>
    intro n i j h1 hj n
    rw [if_neg (by omega)] at hj
    subst hj
    have hsi := hsz (p + j) (by omega)
    have hpj := psum_le (sz := sz) (show p ≤ p + j by omega)
    have hpj2 : psum sz (p + (j + 1)) = psum sz (p + j) + sz (p + j) := rfl
    have hg := gin_nI (k := p + j) (n := 64) (by omega) (by omega)
    have hsm := lac_small l hT hps hp hc8 p j (Nat.le_refl _) (by omega)
    rw [show n + (m + 1) = (n + m) + 1 by omega, fX10_putBlock_b19, if_neg (nI_ge (by omega) (by omega)), nm_eq, nI_add, if_pos hg, nI_clamp (by omega), hms _ (by omega), nm_eq, nI_l (by omega), lN_add, hend]
    by_cases cl : j = cnt - 1
    · have e := ih 0 (j + 1) (cnt - 1) (by omega) (by rw [if_pos (by omega)]) n
      rw [← e, if_pos (by rw [cl])]
      unfold fX10_putBlock_b134
      rw [nm_eq, nI_1, show h0 + (psum sz (p + j) - psum sz p) + (lac l sz p j p).length + sz (p + j) = h0 + (psum sz (p + (j + 1)) - psum sz p) + (lac l sz p (cnt - 1) p).length by rw [← cl]; omega]
    · have e := ih 0 (j + 1) (j + 1) (by omega) (by rw [if_neg (by omega)]) n
      have hsn : (lac l sz p (j + 1) p).length = (lac l sz p j p).length + (xiL l sz p (p + j)).length := by rw [lac_snoc, List.length_append]
      rw [xi_n] at hsn
      rw [← e, if_neg (by rw [nI_eq (by omega) (by omega)]; exact cl)]
      unfold fX10_putBlock_b78 fX10_putBlock_b131 fX10_putBlock_b134
      simp only [nm_eq, nI_1]
      by_cases l1 : l = 1
      · rw [if_pos l1] at hsn
        have hd : (nI (sz (p + j)) / 255).toInt64 = lN (sz (p + j) / 255) := by rw [i255, pk_div (by omega) (by omega) (by omega), nI_l (by omega)]
        rw [if_pos (by rw [l1]; rfl), if_pos hg, nI_clamp (n := p + j) (by omega), hms (p + j) (by omega), if_neg (show ¬ nI l = 3 by rw [l1]; decide), hd, lN_1, lN_add, show h0 + (psum sz (p + j) - psum sz p) + (lac l sz p j p).length + sz (p + j) + (sz (p + j) / 255 + 1) = h0 + (psum sz (p + (j + 1)) - psum sz p) + (lac l sz p (j + 1) p).length by omega]
      · have hl1 : ¬ nI l = 1 := by rw [i1, nI_eq (by omega) (by omega)]; exact l1
        rw [if_neg l1] at hsn
        rw [if_neg hl1]
        by_cases l3 : l = 3
        · have hl3 : nI l = 3 := by rw [l3]; rfl
          rw [if_pos l3] at hsn
          rw [if_pos hl3]
          by_cases ci : j = 0
          · rw [if_pos (by omega)] at hsn
            have hpi : p + j = p := by omega
            have hs2 := szn_le (sz (p + j))
            rw [if_pos (by rw [ci]; exact nI_0), if_pos (gin_nI (k := p) (n := 64) (by omega) (by omega)), nI_clamp (by omega), hms p (by omega), nI_l (by have := hsz p (by omega); omega), rsizeLength F (by omega) (by have := hsz p (by omega); omega), Option.bind_some, nI_l (by have := szn_le (sz p); omega), lN_add, show h0 + (psum sz (p + j) - psum sz p) + (lac l sz p j p).length + sz (p + j) + szn (sz p) = h0 + (psum sz (p + (j + 1)) - psum sz p) + (lac l sz p (j + 1) p).length by rw [show szn (sz p) = szn (sz (p + j)) by rw [hpi]]; omega]
          · rw [if_neg (by omega)] at hsn
            have hsi1 := hsz (p + j - 1) (by omega)
            obtain ⟨db1, db2⟩ := dif_b hsi hsi1
            have hd2 := dfn_le (nI (sz (p + j)) - nI (sz (p + j - 1))).toInt64
            have hpr : nI (p + j) - 1 = nI (p + j - 1) := by
              obtain ⟨k, hk⟩ : ∃ k, p + j = k + 1 := ⟨p + j - 1, by omega⟩
              rw [hk]
              exact nI_pred k
            rw [if_neg (nI_ne0 (by omega) (by omega)), nI_add, if_pos hg, hpr, if_pos (gin_nI (k := p + j - 1) (n := 64) (by omega) (by omega)), nI_clamp (by omega), nI_clamp (by omega), hms (p + j) (by omega), hms (p + j - 1) (by omega), rsignedLength F (by omega) db1 db2, Option.bind_some, nI_l (by omega), lN_add, show h0 + (psum sz (p + j) - psum sz p) + (lac l sz p j p).length + sz (p + j) + dfn (nI (sz (p + j)) - nI (sz (p + j - 1))).toInt64 = h0 + (psum sz (p + (j + 1)) - psum sz p) + (lac l sz p (j + 1) p).length by omega]
        · have hl3 : ¬ nI l = 3 := by rw [i3, nI_eq (by omega) (by omega)]; exact l3
          rw [if_neg l3] at hsn
          rw [if_neg hl3, show h0 + (psum sz (p + j) - psum sz p) + (lac l sz p j p).length + sz (p + j) = h0 + (psum sz (p + (j + 1)) - psum sz p) + (lac l sz p (j + 1) p).length by omega]
theorem blk_r (F : Nat) (hF : 6000 < F) {N T p cnt l : Nat} {sz : Nat → Nat} {ms mb pbw : Nat → Int32} (hN : N ≤ 64) (hT : T ≤ 2400) (hps : psum sz N = T) (hms : ∀ i, i < N → ms i = nI (sz i)) (hby : ∀ k, k < T → rb pbw k = mb k &&& 255) (hp : p + cnt ≤ N) (hcnt : 1 ≤ cnt) (hc8 : cnt ≤ 8) (hl : l < 4) (d : Int64) {md mf : Int32} {dr : Nat → Int32} {c : Option (List Int32)} (hc : CR 6000 0 md mf (fun k => dr k &&& 255) c) : ∃ r : Int32 × Int32 × (Nat → Int32), fX10_putBlock F md mf dr ms mb (nI p) (nI cnt) (nI (psum sz p)) d.toInt32 (nI l) = some r ∧ CR 6000 0 r.1 r.2.1 (fun k => r.2.2 k &&& 255) (app 6000 c (blkL sz pbw p cnt l d)) := by
  have hpp := psum_le (sz := sz) (show p ≤ p + cnt by omega)
  have hpN := psum_le (sz := sz) hp
  have hsm := lac_small l hT hps hp hc8 p (cnt - 1) (Nat.le_refl _) (by omega)
  obtain ⟨f, hf⟩ : ∃ f, F = (f + 1) + cnt := ⟨F - cnt - 1, by omega⟩
  obtain ⟨h0, hh0, hh1⟩ : ∃ h0 : Nat, h0 = (hdL d l cnt).length ∧ fX10_putBlock F md mf dr ms mb (nI p) (nI cnt) (nI (psum sz p)) d.toInt32 (nI l) = fX10_putBlock_b19 F md mf dr ms mb (nI p) (nI cnt) (nI (psum sz p)) d.toInt32 (nI l) (f + 1) (nI cnt) (lN (h0 + (psum sz (p + cnt) - psum sz p) + (lac l sz p (cnt - 1) p).length)) := by
    refine ⟨(hdL d l cnt).length, rfl, ?_⟩
    rw [hdL_len]
    have hz : (lac l sz p 0 p).length = 0 := rfl
    unfold fX10_putBlock fX10_putBlock_b13
    rw [nm_eq, nm_eq]
    by_cases q : l = 0
    · have e := r19 F hF (sz := sz) (mb := mb) hN hT hps hms hp hcnt hc8 hl 4 md mf (nI (psum sz p)) d.toInt32 dr cnt 0 0 0 (by omega) (by rw [if_neg (by omega)]) (f + 1)
      rw [hz, show 4 + (psum sz (p + 0) - psum sz p) + 0 = 4 by simp only [Nat.add_zero]; omega, ← hf] at e
      rw [if_pos (by rw [q]; decide), if_pos q, ← e]
      rfl
    · have e := r19 F hF (sz := sz) (mb := mb) hN hT hps hms hp hcnt hc8 hl 5 md mf (nI (psum sz p)) d.toInt32 dr cnt 0 0 0 (by omega) (by rw [if_neg (by omega)]) (f + 1)
      rw [hz, show 5 + (psum sz (p + 0) - psum sz p) + 0 = 5 by simp only [Nat.add_zero]; omega, ← hf] at e
      rw [if_neg (nI_nle (by omega) (by omega)), if_neg q, ← e]
      rfl
  rw [hh1, fX10_putBlock_b19, if_pos (nI_le (Nat.le_refl _) (by omega))]
  obtain ⟨r1, a1, c1⟩ := put_CR F hc 163
  have hlen5 : (hdL d l cnt).length ≤ 5 := by
    rw [hdL_len]
    by_cases q : l = 0
    · rw [if_pos q]; omega
    · rw [if_neg q]; omega
  obtain ⟨r2, a2, c2⟩ := rputSize F (by omega) (x := h0 + (psum sz (p + cnt) - psum sz p) + (lac l sz p (cnt - 1) p).length) (by omega) c1
  obtain ⟨r3, a3, c3⟩ := put_CR F c2 129
  obtain ⟨r4, a4, c4⟩ := (phi_g F (by omega) d.toInt32.toInt64 c3).2
  rw [hiL_tr] at c4
  obtain ⟨r5, a5, c5⟩ := put_CR F c4 (fb l)
  have hsg : seg (fun k => mb k &&& 255) (psum sz p) (psum sz (p + cnt) - psum sz p) = seg (rb pbw) (psum sz p) (psum sz (p + cnt) - psum sz p) := seg_congr _ _ (fun k h1 h2 => (hby k (by omega)).symm)
  have hx : h0 + (psum sz (p + cnt) - psum sz p) + (lac l sz p (cnt - 1) p).length = (hdL d l cnt ++ lac l sz p (cnt - 1) p).length + (psum sz (p + cnt) - psum sz p) := by
    rw [List.length_append, ← hh0]
    omega
  rw [a1, Option.bind_some, a2, Option.bind_some, a3, Option.bind_some, a4, Option.bind_some, fb_eq l hl, a5, Option.bind_some]
  unfold fX10_putBlock_b192
  have hcm : nI cnt - 1 = nI (cnt - 1) := by
    obtain ⟨k, rfl⟩ : ∃ k, cnt = k + 1 := ⟨cnt - 1, by omega⟩
    exact nI_pred k
  by_cases q : l = 0
  · rw [if_pos (show nI l ≤ 0 by rw [q]; decide)]
    obtain ⟨r6, a6, c6⟩ := r195 F hF (sz := sz) (mb := mb) hN hT hps hms hp hcnt hl (cnt - 1) F 0 r5.1 r5.2.1 r5.2.2 _ (by omega) (by omega) c5
    have a6' : fX10_putBlock_b195 F ms mb (nI p) (nI cnt) (nI (psum sz p)) (nI l) F 0 r5.1 r5.2.1 r5.2.2 = some r6 := a6
    refine ⟨r6, a6', ?_⟩
    rw [hsg, Nat.add_zero, hx] at c6
    simp only [app_app, List.append_assoc] at c6
    have hL : blkL sz pbw p cnt l d = [(163 : Int32) &&& 255] ++ (szL ((hdL d l cnt ++ lac l sz p (cnt - 1) p).length + (psum sz (p + cnt) - psum sz p)) ++ ([(129 : Int32) &&& 255] ++ (hiL d 2 ++ ([fb l &&& 255] ++ (lac l sz p (cnt - 1) p ++ seg (rb pbw) (psum sz p) (psum sz (p + cnt) - psum sz p)))))) := by
      unfold blkL blkB
      have hh : hdL d l cnt = [(129 : Int32) &&& 255] ++ (hiL d 2 ++ [fb l &&& 255]) := by unfold hdL; rw [if_pos q, List.append_nil]
      generalize szL ((hdL d l cnt ++ lac l sz p (cnt - 1) p).length + (psum sz (p + cnt) - psum sz p)) = S
      rw [hh]
      simp only [List.append_assoc]
    rw [hL]
    exact c6
  · rw [if_neg (nI_nle (by omega) (by omega)), hcm]
    obtain ⟨r6, a6, c6⟩ := put_CR F c5 (nI (cnt - 1))
    obtain ⟨r7, a7, c7⟩ := r195 F hF (sz := sz) (mb := mb) hN hT hps hms hp hcnt hl (cnt - 1) F 0 r6.1 r6.2.1 r6.2.2 _ (by omega) (by omega) c6
    have a7' : fX10_putBlock_b195 F ms mb (nI p) (nI cnt) (nI (psum sz p)) (nI l) F 0 r6.1 r6.2.1 r6.2.2 = some r7 := a7
    rw [a6, Option.bind_some]
    refine ⟨r7, a7', ?_⟩
    rw [hsg, Nat.add_zero, hx] at c7
    simp only [app_app, List.append_assoc] at c7
    have hL : blkL sz pbw p cnt l d = [(163 : Int32) &&& 255] ++ (szL ((hdL d l cnt ++ lac l sz p (cnt - 1) p).length + (psum sz (p + cnt) - psum sz p)) ++ ([(129 : Int32) &&& 255] ++ (hiL d 2 ++ ([fb l &&& 255] ++ ([nI (cnt - 1) &&& 255] ++ (lac l sz p (cnt - 1) p ++ seg (rb pbw) (psum sz p) (psum sz (p + cnt) - psum sz p))))))) := by
      unfold blkL blkB
      have hh : hdL d l cnt = ([(129 : Int32) &&& 255] ++ (hiL d 2 ++ [fb l &&& 255])) ++ [nI (cnt - 1) &&& 255] := by unfold hdL; rw [if_neg q]
      generalize szL ((hdL d l cnt ++ lac l sz p (cnt - 1) p).length + (psum sz (p + cnt) - psum sz p)) = S
      rw [hh]
      simp only [List.append_assoc]
    rw [hL]
    exact c7
