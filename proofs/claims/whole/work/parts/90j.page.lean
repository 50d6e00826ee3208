-- taking a page that has no fault
theorem fl4 : ∀ f, f < 8 → (nI f &&& 4 = 0 ∧ ¬ nI f &&& 4 = 4) ∨ (¬ nI f &&& 4 = 0 ∧ nI f &&& 4 = 4) := by decide +kernel
theorem fl2 : ∀ f, f < 8 → (nI f &&& 2 = 0 ∧ ¬ nI f &&& 2 = 2) ∨ (¬ nI f &&& 2 = 0 ∧ nI f &&& 2 = 2) := by decide +kernel
theorem fl1 : ∀ f, f < 8 → (nI f &&& 1 = 0 ∧ ¬ nI f &&& 1 = 1) ∨ (¬ nI f &&& 1 = 0 ∧ nI f &&& 1 = 1) := by decide +kernel
def OPN (po ob : Int32) (T R : Nat) : Prop := (po = 0 ∧ ob = -1 ∧ T = R) ∨ (po = 1 ∧ ∃ x : Nat, x ≤ 2400 ∧ ob = nI x ∧ T = R + x)
def RP (k : Nat) (pc po lw se : Int32) (lt : Int64) (pk bl : Int32) (w e : Nat → Int32) (t : Nat → Int64) (rm rtot pg rse ln ob il : Int32) (rlt : Int64) (rs : Nat → Int32) (rt : Nat → Int64) (rby : Nat → Int32) : Prop := ∃ (P N T R : Nat) (sz : Nat → Nat), P ≤ k ∧ (P = 0 → k = 0) ∧ N ≤ 64 ∧ T ≤ 2400 ∧ pc = nI P ∧ pg = nI P ∧ pk = nI N ∧ rm = nI N ∧ bl = nI T ∧ rtot = nI R ∧ psum sz N = R ∧ OPN po ob T R ∧ lw = il ∧ (lw = 0 ∨ lw = 1) ∧ (P = 0 ∨ (se = rse ∧ ln + 1 = nI P)) ∧ ((rlt = -1 ∧ lt = 0) ∨ (rlt = lt ∧ 0 ≤ lt)) ∧ (∀ i, i < N → rs i = nI (sz i) ∧ e i = nI (psum sz (i + 1)) ∧ t i = rt i ∧ -1 ≤ t i ∧ t i ≤ 1099511627775) ∧ ∀ j, j < T → rb w j = rby j &&& 255
theorem b185_run (F : Nat) {TT k s R op body : Nat} {mt : Nat → Int32} (hTT : TT ≤ 6000) (hb : k + 27 + s + body ≤ TT) (hR : R + op + body ≤ 2400) (N hf hfa pg ob : Int32) (rlt : Int64) (rs : Nat → Int32) (rt : Nat → Int64) (p3 p4 p5 E : Int32) (tm : Int64) : ∀ (m i : Nat) (f : Nat → Int32), i + m = body → ∃ g, (∀ n, fX10_packets_b185 F N (nI R) hf hfa pg ob rlt mt rs rt (nI k) p3 p4 p5 (n + m) (nI i) (nI op) (nI s) E (nI body) tm f = fX10_packets_b185 F N (nI R) hf hfa pg ob rlt mt rs rt (nI k) p3 p4 p5 n (nI body) (nI op) (nI s) E (nI body) tm g) ∧ ∀ j, g j = if R + op + i ≤ j ∧ j < R + op + body then (mt (k + 27 + s + (j - (R + op)))).toInt8.toInt32 else f j := by
  intro m
  induction m with
  | zero =>
    intro i f h1
    have hi : i = body := by omega
    subst hi
    exact ⟨f, fun n => rfl, fun j => by rw [if_neg (by omega)]⟩
  | succ m ih =>
    intro i f h1
    obtain ⟨g, d1, d2⟩ := ih (i + 1) (upd f (R + op + i) (mt (k + 27 + s + i)).toInt8.toInt32) (by omega)
    refine ⟨g, fun n => ?_, fun j => ?_⟩
    · rw [← d1 n, show n + (m + 1) = (n + m) + 1 by omega, fX10_packets_b185]
      simp only [nm_eq]
      rw [if_neg (nI_ge (by omega) (by omega)), i27, nI_add, nI_add, nI_add, nI_add, nI_add, if_pos (gin_nI (by omega) (by omega)), if_pos (gin_nI (by omega) (by omega)), nI_clamp (by omega), nI_clamp (by omega), nI_1]
    · rw [d2 j, upd_app]
      by_cases c1 : R + op + (i + 1) ≤ j ∧ j < R + op + body
      · rw [if_pos c1, if_pos (by omega)]
      · rw [if_neg c1]
        by_cases c2 : j = R + op + i
        · rw [if_pos c2, if_pos (by omega), c2, show R + op + i - (R + op) = i by omega]
        · rw [if_neg c2, if_neg (by omega)]
theorem b25_run (F : Nat) {TT k s : Nat} {mt : Nat → Int32} {B : Nat → Nat} (hB : ∀ k, B k < 256) (hTT : TT ≤ 6000) (hm : ∀ k, k < TT → mt k &&& 255 = nI (B k)) (hs : k + 27 + s ≤ TT) (rm rtot hf hfa pg rse ln ob il : Int32) (rlt : Int64) (rs : Nat → Int32) (rt : Nat → Int64) (rby : Nat → Int32) (p3 p4 p5 x2 : Int32) : ∀ (m i : Nat), i + m = s → ∀ n, fX10_packets_b25 F rm rtot hf hfa pg rse ln ob il rlt mt rs rt rby (nI k) p3 p4 p5 (n + m) (nI i) x2 (nI (ecnt B k i)) (nI s) = fX10_packets_b25 F rm rtot hf hfa pg rse ln ob il rlt mt rs rt rby (nI k) p3 p4 p5 n (nI s) x2 (nI (ecnt B k s)) (nI s) := by
  intro m
  induction m with
  | zero =>
    intro i h1 n
    have hi : i = s := by omega
    subst hi
    rfl
  | succ m ih =>
    intro i h1 n
    have hb := hB (k + 27 + i)
    have e := ih (i + 1) (by omega) n
    rw [← e, show n + (m + 1) = (n + m) + 1 by omega, fX10_packets_b25]
    unfold fX10_packets_b56
    simp only [nm_eq]
    rw [if_neg (nI_ge (by omega) (by omega)), i27, nI_add, nI_add, rat_B F hm hTT (by omega), Option.bind_some, i255, nI_1, ecnt]
    by_cases c : B (k + 27 + i) < 255
    · rw [if_neg (nI_ge c (by omega)), if_pos c, nI_1]
    · rw [if_pos (nI_le (by omega) (by omega)), if_neg c, ← nI_0, nI_add]
theorem take_rel (F : Nat) (hF : 6000 < F) {TT k P N T R op s E body : Nat} {fw mt : Nat → Int32} (hTT : TT ≤ 6000) (hm : ∀ k, k < TT → mt k &&& 255 = nI (bw fw k)) (hs : s = bw fw (k + 26)) (hE : E = ecnt (bw fw) k s) (hbd : body = ssum (bw fw) k s) (hwh : k + 27 + s + body ≤ TT) (hfl : bw fw (k + 5) < 8) {po lw se ob rse ln : Int32} {lt rlt tm : Int64} {w e rs rby : Nat → Int32} {t rt : Nat → Int64} {sz : Nat → Nat} (ov hf hfa : Int32) (htm : tm = loV (bw fw) (k + 6) 8 0) (hPk : P ≤ k) (hN : N + E ≤ 64) (hT : T + body ≤ 2400) (hps : psum sz N = R) (hop : T = R + op) (hopn : (po = 0 ∧ ob = -1 ∧ op = 0) ∨ (po = 1 ∧ ob = nI op)) (hlt : (rlt = -1 ∧ lt = 0) ∨ (rlt = lt ∧ 0 ≤ lt)) (hok : 0 < E → 0 ≤ tm ∧ tm ≤ 1099511627775) (hli : ∀ i, i < N → rs i = nI (sz i) ∧ e i = nI (psum sz (i + 1)) ∧ t i = rt i ∧ -1 ≤ t i ∧ t i ≤ 1099511627775) (hby : ∀ j, j < T → rb w j = rby j &&& 255) (num : Int32) (hnum : num = nI P) : ∃ (po' lw' : Int32) (lt' : Int64) (pk' bl' : Int32) (w' e' : Nat → Int32) (t' : Nat → Int64) (rm' rtot' ob' : Int32) (rlt' : Int64) (rs' : Nat → Int32) (rt' : Nat → Int64) (rby' : Nat → Int32), fX6_takePage F (nI P) po lt (nI TT) 1501 fw (nI N) 2400 (nI T) ov 601 w e t (nI k) = some (nI (k + plen (bw fw) k), nI (P + 1), po', lw', (loV (bw fw) (k + 14) 4 0).toInt32, lt', pk', bl', ov, w', e', t') ∧ fX10_packets_b185 F (nI N) (nI R) hf hfa (nI P) ob rlt mt rs rt (nI k) (loV (bw fw) (k + 14) 4 0).toInt32 num (nI (bw fw (k + 5))) F 0 (nI op) (nI s) (nI E) (nI body) tm rby = some (1, rm', rtot', hf, hfa, nI (P + 1), (loV (bw fw) (k + 14) 4 0).toInt32, num, ob', lw', rlt', rs', rt', rby') ∧ RP (k + plen (bw fw) k) (nI (P + 1)) po' lw' (loV (bw fw) (k + 14) 4 0).toInt32 lt' pk' bl' w' e' t' rm' rtot' (nI (P + 1)) (loV (bw fw) (k + 14) 4 0).toInt32 num ob' lw' rlt' rs' rt' rby' := by
  have hs2 : s < 256 := by rw [hs]; exact bw_lt _ _
  have hpl : plen (bw fw) k = 27 + s + body := by unfold plen; rw [← hs, hbd]
  obtain ⟨g, g1, g2⟩ := b185_run F (mt := mt) (k := k) (s := s) (R := R) (op := op) (body := body) hTT hwh (by omega) (nI N) hf hfa (nI P) ob rlt rs rt (loV (bw fw) (k + 14) 4 0).toInt32 num (nI (bw fw (k + 5))) (nI E) tm body 0 rby (by omega)
  have hJ : SJ (bw fw) k N T E tm g 0 po op N T R sz e t w rs rt := by
    refine ⟨rfl, rfl, hps, hop, ?_, ?_, fun j hj => ?_, fun j hj => ?_⟩
    · rcases hopn with h | h
      · exact Or.inl h.1
      · exact Or.inr h.1
    · intro h0
      rcases hopn with h | h
      · exact h.2.2
      · rw [h.1] at h0; exact absurd h0 (by decide)
    · obtain ⟨a1, a2, a3, a4⟩ := hli j hj
      exact ⟨a1, a2, by rw [if_neg (by omega)]; exact a3, a4⟩
    · rw [g2 j, if_neg (by omega)]
      exact hby j hj
  obtain ⟨po', had', N', T', R', sz', e', t', w', rs', rt', d1, d2, d3⟩ := seg_run F (by omega) hTT hm hs2 hE (by omega) hN (by omega) hok (rby := g) (fun j h1 h2 => by rw [g2 j, if_pos (by omega), bp_b0, hm _ (by omega), ← hop]) (nI P) (if E = 0 then lt else tm) ov hf hfa (nI P) rlt (loV (bw fw) (k + 14) 4 0).toInt32 num (nI (bw fw (k + 5))) s 0 po op N T R sz e t w rs rt (by omega) hJ
  obtain ⟨c1, c2, c3, c4, c5, c6, c7, c8⟩ := d1
  have hF1 : ∃ q, F = (q + 1) + s := ⟨F - s - 1, by omega⟩
  obtain ⟨q1, hq1⟩ := hF1
  have hF2 : ∃ q, F = (q + 1) + body := ⟨F - body - 1, by omega⟩
  obtain ⟨q2, hq2⟩ := hF2
  have e14 : fX8_lowFirst F (nI TT) 1501 fw (nI k + 14) 4 = some (loV (bw fw) (k + 14) 4 0) := by
    rw [i14, nI_add]
    exact clow F (m := 4) (by omega) (by omega) (by omega) (by omega) (by omega)
  have e6 : fX8_lowFirst F (nI TT) 1501 fw (nI k + 6) 8 = some tm := by
    rw [i6, nI_add, htm]
    exact clow F (m := 8) (by omega) (by omega) (by omega) (by omega) (by omega)
  have e5 : fX8_at F (nI TT) 1501 fw (nI k + 5) = some (nI (bw fw (k + 5))) := by
    rw [i5, nI_add]
    exact at_bw F (by omega) (by omega) (by omega) (by omega)
  have e26 : fX8_at F (nI TT) 1501 fw (nI k + 26) = some (nI s) := by
    rw [i26, nI_add, hs]
    exact at_bw F (by omega) (by omega) (by omega) (by omega)
  have epe : fX6_packetsEnding F (nI TT) 1501 fw (nI k) = some (nI E) := by
    rw [hE, hs]
    exact packetsEnding_bw F (by omega) (by omega) (by omega) (by rw [← hs]; omega) (by omega)
  have hlv : ∃ lw' : Int32, (lw' = 0 ∨ lw' = 1) ∧ ((lw' = 0 ∧ nI (bw fw (k + 5)) &&& 4 = 0 ∧ ¬ nI (bw fw (k + 5)) &&& 4 = 4) ∨ (lw' = 1 ∧ ¬ nI (bw fw (k + 5)) &&& 4 = 0 ∧ nI (bw fw (k + 5)) &&& 4 = 4)) := by
    rcases fl4 _ hfl with h | h
    · exact ⟨0, Or.inl rfl, Or.inl ⟨rfl, h⟩⟩
    · exact ⟨1, Or.inr rfl, Or.inr ⟨rfl, h⟩⟩
  obtain ⟨lw', hlw, hlw2⟩ := hlv
  have hcls : fX6_takePage F (nI P) po lt (nI TT) 1501 fw (nI N) 2400 (nI T) ov 601 w e t (nI k) = some (nI (k + plen (bw fw) k), nI (P + 1), po', lw', (loV (bw fw) (k + 14) 4 0).toInt32, (if E = 0 then lt else tm), nI N', nI T', ov, w', e', t') := by
    have hend : fX6_takePage_b61 F (nI P) (nI TT) 1501 fw 2400 601 (nI k) (q1 + 1) (nI s) (nI (k + 27 + s + ssum (bw fw) k s)) (nI s) (nI (E - ecnt (bw fw) k s)) tm po' (if E = 0 then lt else tm) (nI N') (nI T') ov w' e' t' = some (nI (k + plen (bw fw) k), nI (P + 1), po', lw', (loV (bw fw) (k + 14) 4 0).toInt32, (if E = 0 then lt else tm), nI N', nI T', ov, w', e', t') := by
      rw [fX6_takePage_b61, if_pos (nI_le (Nat.le_refl _) (by omega)), e5, Option.bind_some]
      unfold fX6_takePage_b181 fX6_numberAt
      simp only [nm_eq, e14, Option.bind_some, nI_1]
      rw [hpl, hbd, show k + (27 + s + ssum (bw fw) k s) = k + 27 + s + ssum (bw fw) k s by omega]
      rcases hlw2 with ⟨h1, h2, -⟩ | ⟨h1, h2, -⟩
      · rw [if_pos h2, if_pos isb0, h1]
      · rw [if_neg h2, if_pos isb1, h1]
    have hrun := d2 (q1 + 1)
    rw [← hq1, hend] at hrun
    unfold fX6_takePage
    rw [e26, Option.bind_some, epe, Option.bind_some, e6, Option.bind_some]
    unfold fX6_takePage_b47
    simp only [nm_eq]
    rw [i27, nI_add, nI_add]
    have hz : ssum (bw fw) k 0 = 0 := rfl
    have hz2 : ecnt (bw fw) k 0 = 0 := rfl
    rw [hz, hz2, Nat.add_zero, Nat.sub_zero, nI_0] at hrun
    by_cases c : E = 0
    · rw [if_pos (show nI E ≤ 0 from by rw [c]; decide)]
      rw [if_pos c] at hrun ⊢
      exact hrun
    · rw [if_neg (nI_nle (by omega) (by omega))]
      rw [if_neg c] at hrun ⊢
      exact hrun
  have hN' : N' = N + E := by rw [c2, hE]
  have hT' : T' = T + body := by rw [c1, hbd]
  have href : ∃ rt'' : Nat → Int64, fX10_packets_b185 F (nI N) (nI R) hf hfa (nI P) ob rlt mt rs rt (nI k) (loV (bw fw) (k + 14) 4 0).toInt32 num (nI (bw fw (k + 5))) F 0 (nI op) (nI s) (nI E) (nI body) tm rby = some (1, nI N', nI R', hf, hfa, nI (P + 1), (loV (bw fw) (k + 14) 4 0).toInt32, num, (if po' = 0 then -1 else nI had'), lw', (if E = 0 then rlt else tm), rs', rt'', g) ∧ ∀ j, j < N' → rt'' j = t' j := by
    have hend : ∃ rt'' : Nat → Int64, fX10_packets_b250 F hf hfa (nI P) rlt mt (nI k) (loV (bw fw) (k + 14) 4 0).toInt32 num (nI (bw fw (k + 5))) (q1 + 1) (nI s) po' (nI s) (nI E) tm (nI had') (nI N') (nI R') rs' rt' g = some (1, nI N', nI R', hf, hfa, nI (P + 1), (loV (bw fw) (k + 14) 4 0).toInt32, num, (if po' = 0 then -1 else nI had'), lw', (if E = 0 then rlt else tm), rs', rt'', g) ∧ ∀ j, j < N' → rt'' j = t' j := by
      have hb365 : ∀ ob' : Int32, ∃ rt'' : Nat → Int64, fX10_packets_b365 F hf hfa (nI P) rlt (loV (bw fw) (k + 14) 4 0).toInt32 num (nI (bw fw (k + 5))) (nI E) tm ob' (nI N') (nI R') rs' rt' g = some (1, nI N', nI R', hf, hfa, nI (P + 1), (loV (bw fw) (k + 14) 4 0).toInt32, num, ob', lw', (if E = 0 then rlt else tm), rs', rt'', g) ∧ ∀ j, j < N' → rt'' j = t' j := by
        intro ob'
        have hb392 : ∀ (x : Int64) (y : Nat → Int64), fX10_packets_b392 F hf hfa (nI P) (loV (bw fw) (k + 14) 4 0).toInt32 num (nI (bw fw (k + 5))) (nI N') (nI R') ob' x rs' y g = some (1, nI N', nI R', hf, hfa, nI (P + 1), (loV (bw fw) (k + 14) 4 0).toInt32, num, ob', lw', x, rs', y, g) := by
          intro x y
          unfold fX10_packets_b392 fX10_packets_b417
          simp only [nm_eq, nI_1]
          rcases hlw2 with ⟨h1, -, h2⟩ | ⟨h1, -, h2⟩
          · rw [if_neg h2, if_pos isb0, h1]
          · rw [if_pos h2, if_pos isb1, h1]
        unfold fX10_packets_b365
        simp only [nm_eq]
        by_cases c : E = 0
        · rw [if_pos (show nI E ≤ 0 from by rw [c]; decide), hb392, if_pos c]
          refine ⟨rt', rfl, fun j hj => ?_⟩
          rw [(c7 j hj).2.2.1, if_neg (by omega)]
        · obtain ⟨N1, hN1⟩ : ∃ N1, N' = N1 + 1 := ⟨N' - 1, by omega⟩
          rw [if_neg (nI_nle (by omega) (by omega)), hN1, nI_pred, if_pos (gin_nI (by omega) (by omega)), nI_clamp (by omega), ← hN1, hb392, if_neg c]
          refine ⟨_, rfl, fun j hj => ?_⟩
          rw [(c7 j hj).2.2.1, updL_app]
          by_cases cj : j = N1
          · rw [if_pos cj, if_pos (by omega)]
          · rw [if_neg cj, if_neg (by omega)]
      rw [fX10_packets_b250, if_pos (nI_le (Nat.le_refl _) (by omega))]
      by_cases c : po' = 0
      · rw [if_pos c]
        simp only [if_pos c]
        exact hb365 _
      · rw [if_neg c]
        simp only [if_neg c]
        exact hb365 _
    obtain ⟨rt'', hr1, hr2⟩ := hend
    refine ⟨rt'', ?_, hr2⟩
    have hrun := d3 (q1 + 1)
    rw [← hq1, hr1] at hrun
    have hg := g1 (q2 + 1)
    rw [← hq2] at hg
    have hg' : fX10_packets_b185 F (nI N) (nI R) hf hfa (nI P) ob rlt mt rs rt (nI k) (loV (bw fw) (k + 14) 4 0).toInt32 num (nI (bw fw (k + 5))) F 0 (nI op) (nI s) (nI E) (nI body) tm rby = _ := hg
    rw [hg', fX10_packets_b185, if_pos (nI_le (Nat.le_refl _) (by omega))]
    unfold fX10_packets_b245
    rw [nI_0] at hrun
    rcases hopn with ⟨h1, h2, h3⟩ | ⟨h1, h2⟩
    · rw [if_pos h2]
      rw [h1] at hrun
      exact hrun
    · rw [if_neg (show ¬ ob = -1 from by rw [h2]; exact m1_eq (by omega))]
      rw [h1] at hrun
      exact hrun
  obtain ⟨rt'', hr1, hr2⟩ := href
  refine ⟨po', lw', (if E = 0 then lt else tm), nI N', nI T', w', e', t', nI N', nI R', (if po' = 0 then -1 else nI had'), (if E = 0 then rlt else tm), rs', rt'', g, hcls, hr1, ?_⟩
  refine ⟨P + 1, N', T', R', sz', by omega, by omega, by omega, by omega, rfl, rfl, rfl, rfl, rfl, rfl, c3, ?_, rfl, hlw, Or.inr ⟨rfl, by rw [hnum, nI_1]⟩, ?_, fun j hj => ?_, c8⟩
  · rcases c5 with h | h
    · refine Or.inl ⟨h, by rw [if_pos h], ?_⟩
      have := c6 h
      omega
    · refine Or.inr ⟨h, had', by omega, by rw [if_neg (by rw [h]; decide)], by omega⟩
  · by_cases c : E = 0
    · rw [if_pos c, if_pos c]; exact hlt
    · rw [if_neg c, if_neg c]; exact Or.inr ⟨rfl, (hok (by omega)).1⟩
  · obtain ⟨a1, a2, a3, a4⟩ := c7 j hj
    exact ⟨a1, a2, (hr2 j hj).symm, a4⟩
