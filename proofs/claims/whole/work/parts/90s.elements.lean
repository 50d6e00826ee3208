-- writing elements: block by block on both sides
theorem r351 (F : Nat) {N q cnt : Nat} {sz : Nat → Nat} {ms : Nat → Int32} (hN : N ≤ 64) (hms : ∀ i, i < N → ms i = nI (sz i)) (hq : q + cnt ≤ N) (rc : Int64 → Int32 → Int32 → Int32 → Int32 → Int32 → Int32 → Int32 → (Nat → Int32) → Option (Int32 × Int32 × Int32 × Int32 × (Nat → Int32) × (Nat → Int32))) (l5 l8 : Int32) (l9 : Nat) (l10 : Int64) (md mf : Int32) (dr : Nat → Int32) : ∀ (m n i : Nat), i + m = cnt → m < n → fX10_elements__b351 F ms rc n (nI i) l5 (nI q) (nI (psum sz (q + i))) l8 (nI l9) l10 (nI cnt) md mf dr = rc l10 (nI (l9 + 1)) l8 (nI (psum sz (q + cnt))) (nI (q + cnt)) l5 md mf dr := by
  intro m
  induction m with
  | zero =>
    intro n i h1 h2
    obtain ⟨n', rfl⟩ : ∃ n', n = n' + 1 := ⟨n - 1, by omega⟩
    rw [fX10_elements__b351, if_pos (nI_le (by omega) (by omega)), nm_eq, nm_eq, nI_add, nI_1, show i = cnt by omega]
  | succ m ih =>
    intro n i h1 h2
    obtain ⟨n', rfl⟩ : ∃ n', n = n' + 1 := ⟨n - 1, by omega⟩
    rw [fX10_elements__b351, if_neg (nI_ge (by omega) (by omega)), nm_eq, nI_add, if_pos (gin_nI (by omega) (by omega)), nI_clamp (by omega), hms _ (by omega), nm_eq, nm_eq, nI_add, nI_1]
    exact ih n' (i + 1) (by omega) (by omega)
theorem el_tail (F : Nat) (hF : 6000 < F) {N T l0 pk most q : Nat} {sz : Nat → Nat} {ms mb pbw pe : Nat → Int32} (hN : N ≤ 64) (hT : T ≤ 2400) (hps : psum sz N = T) (hms : ∀ i, i < N → ms i = nI (sz i)) (he : ∀ i, i < N → pe i = nI (psum sz (i + 1))) (hby : ∀ k, k < T → rb pbw k = mb k &&& 255) (hl : l0 < 4) (hpk : 1 ≤ pk) (hpk8 : pk ≤ 8) (hmost : most = if l0 = 0 then 1 else pk) (hq : q < N) (st bl : Nat) (tm ct : Int64) (pos hk2 hk3 : Int32) (hkw : Nat → Int32) {t2 t3 : Int32} {tw : Nat → Int32} {c : Option (List Int32)} (hc : CR 6000 0 t2 t3 (rb tw) c) : ∃ (cnt : Nat) (hk2' hk3' : Int32) (hkw' : Nat → Int32) (t2' t3' : Int32) (tw' : Nat → Int32) (c1 : Option (List Int32)), 1 ≤ cnt ∧ q + cnt ≤ N ∧ (∀ rc, fX2_putClusters_b92 F (nI l0) (nI most) 64 17 (nI N) (nI T) 601 pbw pe 6000 1501 rc tm pos ct (nI bl) (nI q) (nI st) hk2 hk3 hkw t2 t3 tw = rc (nI (st + 1)) (nI (q + cnt)) (nI (bl + 1)) ct pos hk2' hk3' hkw' t2' t3' tw') ∧ CR 6000 0 t2' t3' (rb tw') c1 ∧ GE c c1 ∧ ∀ (md mf : Int32) (dr : Nat → Int32), CR 6000 0 md mf (fun k => dr k &&& 255) c → ∃ (md' mf' : Int32) (dr' : Nat → Int32), CR 6000 0 md' mf' (fun k => dr' k &&& 255) c1 ∧ ∀ (rc : Int64 → Int32 → Int32 → Int32 → Int32 → Int32 → Int32 → Int32 → (Nat → Int32) → Option (Int32 × Int32 × Int32 × Int32 × (Nat → Int32) × (Nat → Int32))) (l5 : Int32), fX10_elements__b265 F (nI N) ms mb (nI l0) (nI pk) rc tm l5 (nI q) (nI (psum sz q)) pos (nI bl) ct dr md mf = rc ct (nI (bl + 1)) pos (nI (psum sz (q + cnt))) (nI (q + cnt)) l5 md' mf' dr' := by
  have hm1 : 1 ≤ most := by
    rw [hmost]
    by_cases qq : l0 = 0
    · rw [if_pos qq]; omega
    · rw [if_neg qq]; exact hpk
  obtain ⟨cnt, d1, d2, d3, d4, -⟩ := cnt_eq F (sz := sz) hN (by omega) hms he hq hl hpk hpk8 hmost mb (fun _ _ _ _ _ _ _ _ _ => none) 0 0 0 0 0 0 0 0 (fun _ => 0) 8 1 F F (by omega) (by omega) (by omega) hm1 (by omega) (by omega) (by omega)
  have hpo : fX2_packetsOfBlock F (nI l0) (nI most) (nI N) pe (nI q) = some (nI cnt) := by
    unfold fX2_packetsOfBlock
    rw [nm_eq, nI_1]
    exact d4
  obtain ⟨r, a1, a2⟩ := blk_c F hF (l := if cnt = 1 then 0 else l0) (l0 := l0) (sz := sz) (pbw := pbw) (pe := pe) hN hT hps he d3 d1 d2 hl rfl (tm - ct) hkw hc
  refine ⟨cnt, r.1, r.2.1, r.2.2.1, r.2.2.2.1, r.2.2.2.2.1, r.2.2.2.2.2, app 6000 c (blkL sz pbw q cnt (if cnt = 1 then 0 else l0) (tm - ct)), d1, d3, fun rc => ?_, a2, GE_app _ _ _, fun md mf dr hr => ?_⟩
  · unfold fX2_putClusters_b92
    rw [hpo, Option.bind_some, a1, Option.bind_some, nm_eq, nm_eq, nm_eq, nI_1, nI_add, nI_1]
  · have hl4 : (if cnt = 1 then 0 else l0) < 4 := by
      by_cases qq : cnt = 1
      · rw [if_pos qq]; omega
      · rw [if_neg qq]; exact hl
    obtain ⟨r2, b1, b2⟩ := blk_r F hF (l := if cnt = 1 then 0 else l0) (sz := sz) (ms := ms) (mb := mb) (pbw := pbw) hN hT hps hms hby d3 d1 d2 hl4 (tm - ct) hr
    refine ⟨r2.1, r2.2.1, r2.2.2, b2, fun rc l5 => ?_⟩
    obtain ⟨cnt', f1, f2, f3, f4, f5⟩ := cnt_eq F (sz := sz) hN (by omega) hms he hq hl hpk hpk8 hmost mb rc l5 (nI (psum sz q)) pos (nI bl) md mf ct tm dr 8 1 F F (by omega) (by omega) (by omega) hm1 (by omega) (by omega) (by omega)
    rw [d4] at f4
    have hcc : cnt = cnt' := nI_inj (by omega) (by omega) (Option.some.inj f4)
    subst hcc
    unfold fX10_elements__b265
    have f5' : fX10_elements__b268 F (nI N) ms mb (nI l0) (nI pk) rc F 1 l5 (nI q) (nI (psum sz q)) pos (nI bl) ct tm md mf dr = _ := f5
    rw [f5']
    have h345 : fX10_elements__b321 F ms mb (nI l0) rc l5 (nI q) (nI (psum sz q)) pos (nI bl) ct tm (nI cnt) md mf dr = fX10_elements__b345 F ms mb rc l5 (nI q) (nI (psum sz q)) pos (nI bl) ct (nI cnt) (nI (if cnt = 1 then 0 else l0)) (tm - ct).toInt32 (nI (psum sz q)) (nI cnt) (nI q) md mf dr := by
      unfold fX10_elements__b321
      by_cases qq : cnt = 1
      · rw [if_pos (show nI cnt ≤ 1 by rw [qq]; decide), if_pos qq, nI_0]
      · rw [if_neg (show ¬ nI cnt ≤ 1 by rw [i1]; exact nI_ge (by omega) (by omega)), if_neg qq]
    rw [h345]
    unfold fX10_elements__b345
    rw [b1, Option.bind_some]
    exact r351 F hN hms d3 rc l5 pos bl ct r2.1 r2.2.1 r2.2.2 cnt F 0 (by omega) (by omega)
theorem b120_full (F : Nat) (om hm : Int32) (co ms mb : Nat → Int32) (mt : Nat → Int64) (p1 p2 p3 u : Int32) (n : Nat) (l10 : Int64) (l9 l8 l7 l6 l5 md : Int32) (dr : Nat → Int32) : fX10_elements__b120 F om hm co ms mt mb p1 p2 p3 u (n + 1) l10 l9 l8 l7 l6 l5 md 1 dr = fX10_elements__b406 F om co u l5 md 1 dr := by
  have h392 : fX10_elements__b392 F om co u l5 l8 md 1 dr = fX10_elements__b406 F om co u l5 md 1 dr := by
    unfold fX10_elements__b392 fX10_tell
    by_cases q : l8 = -1
    · rw [if_pos q]
    · rw [if_neg q]
      by_cases q2 : u = 0
      · rw [if_pos q2, if_neg (show ¬ (1 : Int32) = 0 by decide), Option.bind_some]
      · rw [if_neg q2, Option.bind_some]
  rw [fX10_elements__b120]
  by_cases q : hm ≤ l6
  · rw [if_pos q, h392]
  · rw [if_neg q, if_neg (show ¬ (1 : Int32) = 0 by decide), h392]
theorem idc : (524531317 : Int32).toInt64 = 524531317 := by decide +kernel
theorem ids : (408125543 : Int32).toInt64 = 408125543 := by decide +kernel
theorem el_sim (F : Nat) (hF : 6000 < F) {N T l0 pk most bm : Nat} {sz : Nat → Nat} {ms mb pbw pe : Nat → Int32} {t mt : Nat → Int64} (hN : N ≤ 64) (hT : T ≤ 2400) (hps : psum sz N = T) (hms : ∀ i, i < N → ms i = nI (sz i)) (he : ∀ i, i < N → pe i = nI (psum sz (i + 1))) (hti : ∀ i, i < N → t i = mt i) (htb : ∀ i, i < N → -1 ≤ t i ∧ t i ≤ 1099511627775) (hby : ∀ k, k < T → rb pbw k = mb k &&& 255) (hl : l0 < 4) (hpk : 1 ≤ pk) (hpk8 : pk ≤ 8) (hmost : most = if l0 = 0 then 1 else pk) (hbm : 1 ≤ bm) (hbm2 : bm ≤ 20) (u om : Int32) (co : Nat → Int32) :
    ∀ (M q st bl n : Nat) (ct : Int64) (pos hk2 hk3 : Int32) (hkw : Nat → Int32) (t2 t3 : Int32) (tw : Nat → Int32) (c : Option (List Int32)), N - q ≤ M → q ≤ N → st ≤ q → bl ≤ bm → CR 6000 0 t2 t3 (rb tw) c → POS pos c → M < n →
    ∃ (r : Int32 × Int32 × (Nat → Int32) × Int32 × Int32 × (Nat → Int32)) (c' : Option (List Int32)), fX2_putClusters_b13 F (nI l0) (nI most) u 64 17 (nI N) (nI T) 601 pbw pe t 6000 1501 (nI bm) n (nI st) (nI q) (nI bl) ct pos hk2 hk3 hkw t2 t3 tw = some r ∧ CR 6000 0 r.2.2.2.1 r.2.2.2.2.1 (rb r.2.2.2.2.2) c' ∧ GE c c' ∧ ∀ (L : List Int32) (md mf : Int32) (dr : Nat → Int32) (n0 : Nat) (l5 : Int32), c = some L → CR 6000 0 md mf (fun k => dr k &&& 255) c → M < n0 → ∃ (md' mf' : Int32) (dr' : Nat → Int32), fX10_elements__b120 F om (nI N) co ms mt mb (nI l0) (nI pk) (nI bm) u n0 ct (nI bl) pos (nI (psum sz q)) (nI q) l5 md mf dr = fX10_elements__b406 F om co u l5 md' mf' dr' ∧ CR 6000 0 md' mf' (fun k => dr' k &&& 255) c' := by
  intro M
  induction M with
  | zero =>
    intro q st bl n ct pos hk2 hk3 hkw t2 t3 tw c h1 h2 h3 h4 hc hp hn
    obtain ⟨n', rfl⟩ : ∃ n', n = n' + 1 := ⟨n - 1, by omega⟩
    have hqN : q = N := by omega
    obtain ⟨w', c1, e1, e2, e3, e4, e5⟩ := tl_both F hF u hc hp
    refine ⟨(hk2, hk3, hkw, t2, t3, w'), c1, ?_, e2, e3, fun L md mf dr n0 l5 g1 g2 g3 => ?_⟩
    · have h128 : fX2_putClusters_b128 F u 1501 pos hk2 hk3 hkw t2 t3 tw = some (hk2, hk3, hkw, t2, t3, w') := by
        unfold fX2_putClusters_b128
        rw [e1, Option.bind_some]
      rw [fX2_putClusters_b13, h128]
      by_cases k1 : nI N ≤ nI st
      · rw [if_pos k1]
      · rw [if_neg k1, if_pos (nI_le (by omega) (by omega))]
    · obtain ⟨n1, rfl⟩ : ∃ n', n0 = n' + 1 := ⟨n0 - 1, by omega⟩
      rw [fX10_elements__b120, if_pos (nI_le (by omega) (by omega))]
      unfold fX10_elements__b392
      by_cases k1 : pos = -1
      · rw [if_pos k1, e4 k1]
        exact ⟨md, mf, dr, rfl, g2⟩
      · obtain ⟨dr', f1, f2⟩ := e5 md mf dr g2 k1
        rw [if_neg k1, f1, Option.bind_some]
        exact ⟨md, mf, dr', rfl, f2⟩
  | succ M ih =>
    intro q st bl n ct pos hk2 hk3 hkw t2 t3 tw c h1 h2 h3 h4 hc hp hn
    rcases Nat.lt_or_ge q N with hq | hq
    · obtain ⟨n', rfl⟩ : ∃ n', n = n' + 1 := ⟨n - 1, by omega⟩
      obtain ⟨x, hx, ht1, ht2⟩ := time_eq2 F (by omega) hN hti htb hq
      rw [fX2_putClusters_b13, if_neg (nI_ge (show st < N by omega) (by omega)), if_neg (nI_ge hq (by omega)), ht1, Option.bind_some]
      by_cases hnew : pos = -1 ∨ bm ≤ bl ∨ ¬ (¬ (lN x - ct) < (-32768) ∧ ¬ 32767 < (lN x - ct))
      · -- a new cluster
        obtain ⟨w1, c1, e1, e2, e3, e4, e5⟩ := tl_both F hF u hc hp
        obtain ⟨len', ov', w2, f1, f2⟩ := begin_c F hF u 524531317 e2
        rw [idc] at f2
        obtain ⟨K, r3, hK, g1, g2⟩ := ctime_c F hF hx f2
        obtain ⟨cnt, hk2', hk3', hkw', t2', t3', tw', c4, i1', i2', i3', i4', i5', i6'⟩ := el_tail F hF (st := st) (bl := 0) (tm := lN x) (ct := lN x) (pos := len') (hk2 := hk2) (hk3 := hk3) (hkw := hkw) hN hT hps hms he hby hl hpk hpk8 hmost hq g2
        have hge : GE c (app 6000 (app 6000 c1 (hiL 524531317 4)) (blg u)) := GE_trans e3 (GE_trans (GE_app 6000 c1 (hiL 524531317 4)) (GE_app _ _ _))
        have hge2 : GE (app 6000 (app 6000 c1 (hiL 524531317 4)) (blg u)) c4 := GE_trans (GE_app _ _ _) i5'
        have hpos' : POS len' (app 6000 (app 6000 c1 (hiL 524531317 4)) (blg u)) := by
          right
          have hg4 := GE_app 6000 (app 6000 c1 (hiL 524531317 4)) (blg u)
          have h4' : ∀ L, app 6000 c1 (hiL 524531317 4) = some L → 4 ≤ L.length := by
            intro L hL
            cases c1 with
            | none => rw [app_none] at hL; cases hL
            | some L0 =>
              rw [app_some] at hL
              by_cases qq : L0.length + (hiL 524531317 4).length ≤ 6000
              · rw [if_pos qq] at hL
                rw [← Option.some.inj hL, List.length_append, hiL_len]
                omega
              · rw [if_neg qq] at hL; cases hL
          have h5' := hg4.2 4 h4'
          cases hX : app 6000 (app 6000 c1 (hiL 524531317 4)) (blg u) with
          | none =>
            rw [hX] at f2
            exact ⟨6000, f2.1, by omega, by omega, fun L hL => by cases hL⟩
          | some L =>
            have := h5' L hX
            rw [hX] at f2
            refine ⟨L.length, f2.2.1, this, f2.1, fun L' hL' => ?_⟩
            rw [Option.some.inj hL']
            exact Nat.le_refl _
        obtain ⟨r, c', j1, j2, j3, j4⟩ := ih (q + cnt) (st + 1) (0 + 1) n' (lN x) len' hk2' hk3' hkw' t2' t3' tw' c4 (by omega) i2' (by omega) (by omega) i4' (POS_GE hpos' hge2) (by omega)
        have h69 : fX2_putClusters_b69 F (nI l0) (nI most) u 64 17 (nI N) (nI T) 601 pbw pe 6000 1501 (fX2_putClusters_b13 F (nI l0) (nI most) u 64 17 (nI N) (nI T) 601 pbw pe t 6000 1501 (nI bm) n') (lN x) pos (nI q) (nI st) hk2 hk3 hkw t2 t3 tw = some r := by
          unfold fX2_putClusters_b69
          rw [e1, Option.bind_some, f1, Option.bind_some, g1, Option.bind_some]
          have i3'' := i3' (fX2_putClusters_b13 F (nI l0) (nI most) u 64 17 (nI N) (nI T) 601 pbw pe t 6000 1501 (nI bm) n')
          rw [nI_0] at i3''
          rw [i3'']
          exact j1
        refine ⟨r, c', ?_, j2, GE_trans hge (GE_trans hge2 j3), fun L md mf dr n0 l5 k1 k2 k3 => ?_⟩
        · by_cases z1 : pos = -1
          · rw [if_pos z1, h69]
          · rw [if_neg z1]
            by_cases z2 : bm ≤ bl
            · rw [if_pos (nI_le z2 (by omega)), h69]
            · rw [if_neg (nI_ge (by omega) (by omega)), fits_c, Option.bind_some]
              have z3 : ¬ (¬ (lN x - ct) < (-32768) ∧ ¬ 32767 < (lN x - ct)) := by
                rcases hnew with h | h | h
                · exact absurd h z1
                · exact absurd h z2
                · exact h
              rw [if_neg z3, if_pos (rfl : (0 : Int32) = 0), h69]
        · obtain ⟨n1, rfl⟩ : ∃ n', n0 = n' + 1 := ⟨n0 - 1, by omega⟩
          have hmf : mf = 0 := by rw [k1] at k2; exact k2.2.2.1
          rw [fX10_elements__b120, if_neg (nI_ge hq (by omega)), if_pos hmf, ht2, Option.bind_some, nm_eq]
          -- the cluster's beginning
          have h188 : ∀ (dr1 : Nat → Int32), CR 6000 0 md mf (fun k => dr1 k &&& 255) c1 → ∃ (md' mf' : Int32) (dr' : Nat → Int32), fX10_elements__b188 F (nI N) ms mb (nI l0) (nI pk) u (fX10_elements__b120 F om (nI N) co ms mt mb (nI l0) (nI pk) (nI bm) u n1) l5 (nI q) (nI (psum sz q)) (lN x) md mf dr1 = fX10_elements__b406 F om co u l5 md' mf' dr' ∧ CR 6000 0 md' mf' (fun k => dr' k &&& 255) c' := by
            intro dr1 hd
            obtain ⟨s1, y1, m1⟩ := phi4 F hF 524531317 hd
            obtain ⟨md2, mf2, dr2, y2, m2⟩ := later_r F hF u m1
            obtain ⟨s3, y3, m3⟩ := put_CR F m2 231
            obtain ⟨K2, hK2, y4⟩ := r221 F hx (nI N) ms mb (nI l0) (nI pk) (fX10_elements__b120 F om (nI N) co ms mt mb (nI l0) (nI pk) (nI bm) u n1) (lN x) md2 l5 (nI q) (nI (psum sz q)) s3.1 s3.2.1 s3.2.2 7 F 1 (by omega) (by omega) (by omega) (Or.inl rfl)
            have hKK : K2 = K := KP_uniq hK2 hK
            rw [hKK] at y4
            obtain ⟨s5, y5, m5⟩ := put_CR F m3 ((128 : Int32) + nI K)
            rw [szL_8 K (by have := hK.2.1; omega)] at m5
            obtain ⟨s6, y6, m6⟩ := putHigh_CR F (lN x) K hK.2.1 (by omega) m5
            rw [app_app, app_app] at m6
            obtain ⟨md7, mf7, dr7, m7, y7⟩ := i6' s6.1 s6.2.1 s6.2.2 m6
            have hsame : len' = md2 := CR_same f2 m2
            have y4' : fX10_elements__b221 F (nI N) ms mb (nI l0) (nI pk) (fX10_elements__b120 F om (nI N) co ms mt mb (nI l0) (nI pk) (nI bm) u n1) F 1 (lN x) md2 l5 (nI q) (nI (psum sz q)) (lN x) s3.1 s3.2.1 s3.2.2 = _ := y4
            have y7' := y7 (fX10_elements__b120 F om (nI N) co ms mt mb (nI l0) (nI pk) (nI bm) u n1) l5
            rw [nI_0, hsame] at y7'
            have hfin : ∃ (md' mf' : Int32) (dr' : Nat → Int32), fX10_elements__b120 F om (nI N) co ms mt mb (nI l0) (nI pk) (nI bm) u n1 (lN x) (nI (0 + 1)) md2 (nI (psum sz (q + cnt))) (nI (q + cnt)) l5 md7 mf7 dr7 = fX10_elements__b406 F om co u l5 md' mf' dr' ∧ CR 6000 0 md' mf' (fun k => dr' k &&& 255) c' := by
              cases hc4 : c4 with
              | none =>
                obtain ⟨n2, rfl⟩ : ∃ n', n1 = n' + 1 := ⟨n1 - 1, by omega⟩
                rw [hc4] at m7
                have hm1 := m7.2
                subst hm1
                refine ⟨md7, 1, dr7, b120_full F om (nI N) co ms mb mt (nI l0) (nI pk) (nI bm) u n2 (lN x) _ md2 _ _ l5 md7 dr7, ?_⟩
                rw [j3.1 hc4]
                exact m7
              | some L4 =>
                rw [← hsame]
                exact j4 L4 md7 mf7 dr7 n1 l5 hc4 m7 (by omega)
            obtain ⟨md', mf', dr', v1, v2⟩ := hfin
            refine ⟨md', mf', dr', ?_, v2⟩
            unfold fX10_elements__b188
            rw [y1, Option.bind_some, y2, Option.bind_some, y3, Option.bind_some, y4']
            unfold fX10_elements__b247
            rw [y5, Option.bind_some, y6, Option.bind_some, y7']
            exact v1
          have h174 : ∃ (md' mf' : Int32) (dr' : Nat → Int32), fX10_elements__b174 F (nI N) ms mb (nI l0) (nI pk) u (fX10_elements__b120 F om (nI N) co ms mt mb (nI l0) (nI pk) (nI bm) u n1) (lN x) l5 (nI q) (nI (psum sz q)) pos dr md mf = fX10_elements__b406 F om co u l5 md' mf' dr' ∧ CR 6000 0 md' mf' (fun k => dr' k &&& 255) c' := by
            unfold fX10_elements__b174
            by_cases z1 : pos = -1
            · rw [if_pos z1]
              exact h188 dr (by rw [e4 z1]; exact k2)
            · obtain ⟨dr1, v1, v2⟩ := e5 md mf dr k2 z1
              rw [if_neg z1, v1, Option.bind_some]
              exact h188 dr1 v2
          by_cases z1 : pos = -1
          · rw [if_pos z1]; exact h174
          · rw [if_neg z1]
            by_cases z2 : bl = bm
            · rw [if_pos (by rw [z2])]; exact h174
            · rw [if_neg (by rw [nI_eq (by omega) (by omega)]; exact z2)]
              have z3 : ¬ (lN x - ct) = ((((lN x - ct).toInt32).toInt16.toInt32).toInt64) := by
                rw [fits_eq]
                rcases hnew with h | h | h
                · exact absurd h z1
                · omega
                · exact h
              rw [if_neg z3]; exact h174
      · -- the same cluster
        have z1 : ¬ pos = -1 := fun h => hnew (Or.inl h)
        have z2 : ¬ bm ≤ bl := fun h => hnew (Or.inr (Or.inl h))
        have z3 : ¬ (lN x - ct) < (-32768) ∧ ¬ 32767 < (lN x - ct) := Classical.byContradiction (fun h => hnew (Or.inr (Or.inr h)))
        obtain ⟨cnt, hk2', hk3', hkw', t2', t3', tw', c4, i1', i2', i3', i4', i5', i6'⟩ := el_tail F hF (st := st) (bl := bl) (tm := lN x) (ct := ct) (pos := pos) (hk2 := hk2) (hk3 := hk3) (hkw := hkw) hN hT hps hms he hby hl hpk hpk8 hmost hq hc
        obtain ⟨r, c', j1, j2, j3, j4⟩ := ih (q + cnt) (st + 1) (bl + 1) n' ct pos hk2' hk3' hkw' t2' t3' tw' c4 (by omega) i2' (by omega) (by omega) i4' (POS_GE hp i5') (by omega)
        refine ⟨r, c', ?_, j2, GE_trans i5' j3, fun L md mf dr n0 l5 k1 k2 k3 => ?_⟩
        · rw [if_neg z1, if_neg (nI_ge (by omega) (by omega)), fits_c, Option.bind_some, if_pos z3, if_neg (show ¬ (1 : Int32) = 0 by decide), i3']
          exact j1
        · obtain ⟨n1, rfl⟩ : ∃ n', n0 = n' + 1 := ⟨n0 - 1, by omega⟩
          have hmf : mf = 0 := by rw [k1] at k2; exact k2.2.2.1
          obtain ⟨md7, mf7, dr7, m7, y7⟩ := i6' md mf dr k2
          rw [fX10_elements__b120, if_neg (nI_ge hq (by omega)), if_pos hmf, ht2, Option.bind_some, nm_eq, if_neg z1, if_neg (show ¬ nI bl = nI bm by rw [nI_eq (by omega) (by omega)]; omega), if_pos ((fits_eq _).mpr z3), y7]
          cases hc4 : c4 with
          | none =>
            obtain ⟨n2, rfl⟩ : ∃ n', n1 = n' + 1 := ⟨n1 - 1, by omega⟩
            rw [hc4] at m7
            have hm1 := m7.2
            subst hm1
            refine ⟨md7, 1, dr7, b120_full F om (nI N) co ms mb mt (nI l0) (nI pk) (nI bm) u n2 ct _ pos _ _ l5 md7 dr7, ?_⟩
            rw [j3.1 hc4]
            exact m7
          | some L4 => exact j4 L4 md7 mf7 dr7 n1 l5 hc4 m7 (by omega)
    · exact ih q st bl n ct pos hk2 hk3 hkw t2 t3 tw c (by omega) h2 h3 h4 hc hp (by omega) |>.elim (fun r hh => hh.elim (fun c' hh => ⟨r, c', hh.1, hh.2.1, hh.2.2.1, fun L md mf dr n0 l5 k1 k2 k3 => hh.2.2.2 L md mf dr n0 l5 k1 k2 (by omega)⟩))
theorem each_lit (F : Nat) (hF : 6000 < F) {t : Nat} {q : Nat → Int32} (ht : t ≤ 100) {len ov : Int32} {w : Nat → Int32} {c : Option (List Int32)} (h : CR 6000 0 len ov (rb w) c) : ∃ r, fX8_addEach F 6000 len ov 1501 w t q = some r ∧ CR 6000 0 r.1 r.2.1 (rb r.2.2) (app 6000 c (seg (fun k => q k &&& 255) 0 t)) := addEach_CR F (cap := 6000) (nw := 1501) (by omega) (by omega) (by omega) (by omega) (by omega) h
theorem row_eq {t : Nat} {a b : Nat → Int32} (h : ∀ j, j < t → a j &&& 255 = b j) : seg (fun k => b k &&& 255) 0 t = seg (fun k => a k &&& 255) 0 t := seg_congr _ _ (fun k h1 h2 => by rw [← h k (by omega), and_255_255])
theorem ok_elements : OP_elementsB Fu := by
  intro s_length s_overfull c_sw l_packets lb_length c_lbw c_le c_lt v_source v_target v_lace v_mostPackets v_unknownSizes vk_length vk_overfull c_vkw a_s a_l a_o M_outMany M_drafted M_full M_many c_Mout c_Mdraft c_Msize c_Mtime c_Mbytes c_MheadRow c_MinfoRow c_MtracksRow c_McodecRow a_length c_aw o_length c_ow h_fault h_faultPlace h_pagesRead h_clustersRead h_blocksRead M_taped c_Mtape M_total M_told M_toldAt M_pageCount M_clusterCount M_blockCount m_packets mb_length c_mbw c_me c_mt q0 q1 q2 q3 hq3 hrel
  obtain ⟨hA, hO, ⟨N, T, sz, hN, hT, e5, e6, e7, e8, hps, hli, hby⟩, hf, hC⟩ := id hrel
  unfold fX9_elements fX10_elements_
  by_cases h1 : q0 < 0
  · rw [if_pos h1, if_pos h1]
    exact ⟨_, _, rfl, rfl, rfl, Or.inl ⟨rfl, rfl, hrel⟩⟩
  rw [if_neg h1, if_neg h1]
  by_cases h2 : 3 < q0
  · rw [if_pos h2, if_pos h2]
    exact ⟨_, _, rfl, rfl, rfl, Or.inl ⟨rfl, rfl, hrel⟩⟩
  rw [if_neg h2, if_neg h2]
  by_cases h3 : q1 < 1
  · rw [if_pos h3, if_pos h3]
    exact ⟨_, _, rfl, rfl, rfl, Or.inl ⟨rfl, rfl, hrel⟩⟩
  rw [if_neg h3, if_neg h3]
  by_cases h4 : 8 < q1
  · rw [if_pos h4, if_pos h4]
    exact ⟨_, _, rfl, rfl, rfl, Or.inl ⟨rfl, rfl, hrel⟩⟩
  rw [if_neg h4, if_neg h4]
  by_cases h5 : q2 < 1
  · rw [if_pos h5, if_pos h5]
    exact ⟨_, _, rfl, rfl, rfl, Or.inl ⟨rfl, rfl, hrel⟩⟩
  rw [if_neg h5, if_neg h5]
  by_cases h6 : q2 ≤ 20
  · rw [if_pos h6, if_pos h6, e5, e6, e7]
    obtain ⟨l0, hl0, rfl⟩ := nI_of h1
    have hl : l0 < 4 := by
      rw [i3, nI_ltI (by omega) hl0] at h2
      omega
    obtain ⟨pk, p1, p2, rfl⟩ := in20 (n := 8) (by omega) h3 (Int32.not_lt.mp h4)
    obtain ⟨bm, b1, b2, rfl⟩ := in20 (n := 20) (by omega) h5 h6
    have hF : 6000 < Fu := by unfold Fu; omega
    have hisb : isb q3 = true := by
      rcases hq3 with h | h
      · rw [h]; exact isb0
      · rw [h]; exact isb1
    unfold fX8_empty
    rw [Option.bind_some]
    dsimp only
    obtain ⟨most, hmost, h63⟩ : ∃ most : Nat, most = (if l0 = 0 then 1 else pk) ∧ ∀ (x y : Int32), (if nI l0 = 0 then (fX9_elements_b63 Fu 6000 1501 c_sw (nI N) (nI T) 601 c_lbw c_le c_lt 64 vk_length vk_overfull 17 c_vkw (nI l0) (nI bm) q3 a_s a_l a_o 1 x y) else (fX9_elements_b63 Fu 6000 1501 c_sw (nI N) (nI T) 601 c_lbw c_le c_lt 64 vk_length vk_overfull 17 c_vkw (nI l0) (nI bm) q3 a_s a_l a_o (nI pk) x y)) = fX9_elements_b63 Fu 6000 1501 c_sw (nI N) (nI T) 601 c_lbw c_le c_lt 64 vk_length vk_overfull 17 c_vkw (nI l0) (nI bm) q3 a_s a_l a_o (nI most) x y := by
      by_cases qq : l0 = 0
      · refine ⟨1, by rw [if_pos qq], fun x y => ?_⟩
        rw [if_pos (by rw [qq]; exact nI_0), i1]
      · refine ⟨pk, by rw [if_neg qq], fun x y => ?_⟩
        rw [if_neg (nI_ne0 (by omega) (by omega))]
    rw [h63]
    have hcr : CR 6000 0 0 0 (rb c_sw) (some []) := ⟨Nat.zero_le _, rfl, rfl, fun k x h => by cases h⟩
    have hcr2 : CR 6000 0 0 0 (fun k => c_Mdraft k &&& 255) (some []) := ⟨Nat.zero_le _, rfl, rfl, fun k x h => by cases h⟩
    -- the head, on both sides
    obtain ⟨r1, a1, c1⟩ := each_lit Fu hF (t := 40) (q := kHead) (by omega) hcr
    obtain ⟨len2, ov2, w2, a2, c2⟩ := begin_c Fu hF q3 408125543 c1
    obtain ⟨r3, a3, c3⟩ := each_lit Fu hF (t := 20) (q := kInfo) (by omega) c2
    obtain ⟨r4, a4, c4⟩ := each_lit Fu hF (t := 19) (q := kTrk) (by omega) c3
    obtain ⟨lv, hlv, hlv2⟩ : ∃ lv : Int32, (∀ (α : Type) (f : Int32 → Option α), (if nI l0 ≤ 0 then f 0 else f 1) = f lv) ∧ True := by
      by_cases qq : nI l0 ≤ 0
      · exact ⟨0, fun α f => by rw [if_pos qq], trivial⟩
      · exact ⟨1, fun α f => by rw [if_neg qq], trivial⟩
    obtain ⟨r5, a5, c5⟩ := ad1 Fu lv c4
    obtain ⟨r6, a6, c6⟩ := each_lit Fu hF (t := 8) (q := kBeh) (by omega) c5
    rw [row_eq hC.1, ids] at c2
    rw [row_eq hC.1, row_eq hC.2.1, row_eq hC.2.2.1, row_eq hC.2.2.2, ids] at c6
    obtain ⟨s1, y1, m1⟩ := putRow_CR Fu (t := 40) (q := c_MheadRow) (by omega) (by omega) hcr2
    obtain ⟨s2, y2, m2⟩ := phi4 Fu hF 408125543 m1
    obtain ⟨md3, mf3, dr3, y3, m3⟩ := later_r Fu hF q3 m2
    obtain ⟨s4, y4, m4⟩ := putRow_CR Fu (t := 20) (q := c_MinfoRow) (by omega) (by omega) m3
    obtain ⟨s5, y5, m5⟩ := putRow_CR Fu (t := 19) (q := c_MtracksRow) (by omega) (by omega) m4
    obtain ⟨s6, y6, m6⟩ := put_CR Fu m5 lv
    obtain ⟨s7, y7, m7⟩ := putRow_CR Fu (t := 8) (q := c_McodecRow) (by omega) (by omega) m6
    have hsame : len2 = md3 := CR_same c2 m3
    generalize hcA : app 6000 (app 6000 (app 6000 (some []) (seg (fun k => c_MheadRow k &&& 255) 0 40)) (hiL 408125543 4)) (blg q3) = cA at c2 m3 c6 m7
    have hcS : ∃ L, cA = some L ∧ 4 ≤ L.length ∧ L.length ≤ 100 := by
      rw [← hcA]
      have hb5 : (blg q3).length ≤ 4 := by
        unfold blg
        by_cases qq : q3 = 0
        · rw [if_pos qq, hiL_len]; omega
        · rw [if_neg qq]; simp only [List.length_cons, List.length_nil]; omega
      refine ⟨((([] ++ seg (fun k => c_MheadRow k &&& 255) 0 40) ++ hiL 408125543 4) ++ blg q3), ?_, ?_⟩
      · rw [app_some, if_pos (by rw [seg_len, List.length_nil]; omega), app_some, if_pos (by simp only [List.length_append, seg_len, hiL_len, List.length_nil]; omega), app_some, if_pos (by simp only [List.length_append, seg_len, hiL_len, List.length_nil]; omega)]
      · simp only [List.length_append, seg_len, hiL_len, List.length_nil]
        omega
    obtain ⟨LA, hLA, hLA4, hLA5⟩ := hcS
    have hposS : POS len2 cA := by
      right
      rw [hLA] at c2
      exact ⟨LA.length, c2.2.1, hLA4, c2.1, fun L hL => by rw [hLA] at hL; rw [Option.some.inj hL]; exact Nat.le_refl _⟩
    generalize hcB : app 6000 (app 6000 (app 6000 (app 6000 cA (seg (fun k => c_MinfoRow k &&& 255) 0 20)) (seg (fun k => c_MtracksRow k &&& 255) 0 19)) [lv &&& 255]) (seg (fun k => c_McodecRow k &&& 255) 0 8) = cB at c6 m7
    have hgeB : GE cA cB := by
      rw [← hcB]
      exact GE_trans (GE_app _ _ _) (GE_trans (GE_app _ _ _) (GE_trans (GE_app _ _ _) (GE_app _ _ _)))
    have hcBs : ∃ L, cB = some L := by
      rw [← hcB, hLA, app_app, app_app, app_app, app_some]
      rw [if_pos (by simp only [List.length_append, seg_len, List.length_cons, List.length_nil]; omega)]
      exact ⟨_, rfl⟩
    obtain ⟨LB, hLB⟩ := hcBs
    obtain ⟨r, c', k1, k2, k3, k4⟩ := el_sim Fu hF (t := c_lt) (mt := c_Mtime) (ms := c_Msize) (mb := c_Mbytes) hN hT hps (fun i hi => (hli i hi).1) (fun i hi => (hli i hi).2.1) (fun i hi => (hli i hi).2.2.1) (fun i hi => (hli i hi).2.2.2) hby hl p1 p2 hmost b1 b2 q3 M_outMany c_Mout N 0 0 0 Fu 0 (-1) vk_length vk_overfull c_vkw r6.1 r6.2.1 r6.2.2 cB (by omega) (by omega) (by omega) (by omega) c6 (Or.inl rfl) (by omega)
    obtain ⟨md8, mf8, dr8, k5, k6⟩ := k4 LB s7.1 s7.2.1 s7.2.2 Fu md3 hLB m7 (by omega)
    have k1' : fX2_putClusters_b13 Fu (nI l0) (nI most) q3 64 17 (nI N) (nI T) 601 c_lbw c_le c_lt 6000 1501 (nI bm) Fu 0 0 0 0 (-1) vk_length vk_overfull c_vkw r6.1 r6.2.1 r6.2.2 = some r := k1
    have k5' : fX10_elements__b120 Fu M_outMany (nI N) c_Mout c_Msize c_Mtime c_Mbytes (nI l0) (nI pk) (nI bm) q3 Fu 0 0 (-1) 0 0 md3 s7.1 s7.2.1 s7.2.2 = _ := k5
    obtain ⟨w9, c9, z1, z2, z3, z4, z5⟩ := tl_both Fu hF q3 k2 (POS_GE hposS (GE_trans hgeB k3))
    have hne : ¬ len2 = -1 := by
      rw [hLA] at c2
      rw [c2.2.1]
      exact m1_eq (by have := c2.1; omega)
    obtain ⟨dr9, v1, v2⟩ := z5 md8 mf8 dr8 k6 hne
    unfold fX9_elements_b63 fX2_write
    rw [if_pos hisb, a1, Option.bind_some, a2, Option.bind_some, a3, Option.bind_some, a4, Option.bind_some, hlv _ (fun v => fX2_write_b81 Fu 64 vk_length vk_overfull 17 c_vkw (nI N) (nI T) 601 c_lbw c_le c_lt 6000 1501 (nI l0) (nI most) (nI bm) q3 a_l a_s len2 v r4.1 r4.2.1 r4.2.2)]
    unfold fX2_write_b81 fX2_putClusters
    rw [a5, Option.bind_some, a6, Option.bind_some, k1', Option.bind_some, z1, Option.bind_some, Option.bind_some]
    rw [y1, Option.bind_some, y2, Option.bind_some, y3, Option.bind_some, y4, Option.bind_some, y5, Option.bind_some, hlv _ (fun v => fX10_elements__b94 Fu M_outMany (nI N) c_Mout c_Msize c_Mtime c_Mbytes c_McodecRow (nI l0) (nI pk) (nI bm) q3 md3 v s5.1 s5.2.1 s5.2.2)]
    unfold fX10_elements__b94
    rw [y6, Option.bind_some, y7, Option.bind_some, k5']
    unfold fX10_elements__b406
    rw [← hsame, v1, Option.bind_some]
    rcases draw_end Fu hF z2 v2 M_outMany c_Mout a_s a_o with ⟨x1, x2⟩ | ⟨x1, g, x2, x3⟩
    · rw [x1, x2, Option.bind_some, Option.bind_some]
      refine ⟨_, _, rfl, rfl, rfl, Or.inl ⟨rfl, rfl, ?_⟩⟩
      rw [e5, e6, e7] at hrel
      exact hrel
    · rw [x1, x2, Option.bind_some, Option.bind_some]
      refine ⟨_, _, rfl, rfl, rfl, Or.inr ⟨rfl, rfl, hA, x3, ?_, hf, hC⟩⟩
      exact ⟨N, T, sz, hN, hT, rfl, rfl, rfl, e8, hps, hli, hby⟩
  · rw [if_neg h6, if_neg h6]
    exact ⟨_, _, rfl, rfl, rfl, Or.inl ⟨rfl, rfl, hrel⟩⟩
