-- reading pages: the whole
theorem tl58 (F : Nat) {N R : Nat} (hR : R ≤ 2400) (rby ms : Nat → Int32) (mti : Nat → Int64) : ∀ (m n i : Nat) (f : Nat → Int32), i + m = R → m < n → ∃ g, fX10_takeList_b58 F (nI N) (nI R) rby n (nI i) ms mti f = some (nI N, nI R, ms, mti, g) ∧ ∀ j, g j &&& 255 = if i ≤ j ∧ j < R then rby j &&& 255 else f j &&& 255 := by
  intro m
  induction m with
  | zero =>
    intro n i f h1 h2
    obtain ⟨n', rfl⟩ : ∃ n', n = n' + 1 := ⟨n - 1, by omega⟩
    refine ⟨f, ?_, fun j => by rw [if_neg (by omega)]⟩
    rw [fX10_takeList_b58, if_pos (nI_le (by omega) (by omega))]
  | succ m ih =>
    intro n i f h1 h2
    obtain ⟨n', rfl⟩ : ∃ n', n = n' + 1 := ⟨n - 1, by omega⟩
    obtain ⟨g, d1, d2⟩ := ih n' (i + 1) (upd f i (rby i).toInt8.toInt32) (by omega) (by omega)
    refine ⟨g, ?_, fun j => ?_⟩
    · rw [fX10_takeList_b58, if_neg (nI_ge (by omega) (by omega)), if_pos (gin_nI (by omega) (by omega)), if_pos (gin_nI (by omega) (by omega))]
      simp only [nm_eq]
      rw [nI_clamp (by omega), nI_1, d1]
    · rw [d2 j, upd_app]
      by_cases c1 : i + 1 ≤ j ∧ j < R
      · rw [if_pos c1, if_pos (by omega)]
      · rw [if_neg c1]
        by_cases c2 : j = i
        · rw [if_pos c2, if_pos (by omega), bp_b0, c2]
        · rw [if_neg c2, if_neg (by omega)]
theorem tl18 (F : Nat) {N R : Nat} (hN : N ≤ 64) (hR : R ≤ 2400) (hF : R < F) (rs rby mb : Nat → Int32) (rt : Nat → Int64) : ∀ (m n i : Nat) (ms : Nat → Int32) (mti : Nat → Int64), i + m = N → m < n → ∃ ms' mti' mb', fX10_takeList_b18 F (nI N) (nI R) rs rt mb rby n (nI i) ms mti = some (nI N, nI R, ms', mti', mb') ∧ (∀ j, j < N → ms' j = if i ≤ j then rs j else ms j) ∧ (∀ j, j < N → mti' j = if i ≤ j then rt j else mti j) ∧ ∀ j, j < R → mb' j &&& 255 = rby j &&& 255 := by
  intro m
  induction m with
  | zero =>
    intro n i ms mti h1 h2
    obtain ⟨n', rfl⟩ : ∃ n', n = n' + 1 := ⟨n - 1, by omega⟩
    obtain ⟨g, d1, d2⟩ := tl58 F (N := N) hR rby ms mti R F 0 mb (by omega) hF
    refine ⟨ms, mti, g, ?_, fun j hj => by rw [if_neg (by omega)], fun j hj => by rw [if_neg (by omega)], fun j hj => by rw [d2 j, if_pos (by omega)]⟩
    rw [fX10_takeList_b18, if_pos (nI_le (by omega) (by omega))]
    exact d1
  | succ m ih =>
    intro n i ms mti h1 h2
    obtain ⟨n', rfl⟩ : ∃ n', n = n' + 1 := ⟨n - 1, by omega⟩
    obtain ⟨a, b, c, d1, d2, d3, d4⟩ := ih n' (i + 1) (upd ms i (rs i)) (vp_updL mti i (rt i)) (by omega) (by omega)
    refine ⟨a, b, c, ?_, fun j hj => ?_, fun j hj => ?_, d4⟩
    · have hg := gin_nI (k := i) (n := 64) (by omega) (by omega)
      rw [fX10_takeList_b18, if_neg (nI_ge (by omega) (by omega))]
      simp only [nm_eq, if_pos hg]
      rw [nI_clamp (by omega), nI_1, d1]
    · rw [d2 j hj, upd_app]
      by_cases c1 : i + 1 ≤ j
      · rw [if_pos c1, if_pos (by omega)]
      · rw [if_neg c1]
        by_cases c2 : j = i
        · rw [if_pos c2, if_pos (by omega), c2]
        · rw [if_neg c2, if_neg (by omega)]
    · rw [d3 j hj, updL_app]
      by_cases c1 : i + 1 ≤ j
      · rw [if_pos c1, if_pos (by omega)]
      · rw [if_neg c1]
        by_cases c2 : j = i
        · rw [if_pos c2, if_pos (by omega), c2]
        · rw [if_neg c2, if_neg (by omega)]
theorem ends_RLi (F : Nat) (hF : 6000 < F) (hm ht hfa : Int32) {pk bl : Int32} {w e : Nat → Int32} {t : Nat → Int64} {rm rtot : Int32} {rs : Nat → Int32} {rt : Nat → Int64} {rby : Nat → Int32} (ms : Nat → Int32) (mti : Nat → Int64) (mb : Nat → Int32) (h : RLi pk bl w e t rm rtot rs rt rby) : ∃ ms' mti' mb', fX10_ends F hm ht rm rtot 0 hfa ms rs mti rt mb rby = some (rm, rm, rtot, 0, hfa, ms', mti', mb') ∧ RLi pk bl w e t rm rtot ms' mti' mb' ∧ pk = rm := by
  obtain ⟨N, T, sz, hN, hT, e1, e2, e3, e4, hps, hli, hby⟩ := h
  subst e1 e2 e3 e4
  obtain ⟨a, b, c, d1, d2, d3, d4⟩ := tl18 F hN hT (by omega) rs rby mb rt N F 0 ms mti (by omega) (by omega)
  refine ⟨a, b, c, ?_, ⟨N, T, sz, hN, hT, rfl, rfl, rfl, rfl, hps, fun i hi => ?_, fun j hj => ?_⟩, rfl⟩
  · unfold fX10_ends fX10_takeList
    rw [if_pos (Int32.le_refl 0)]
    have d1' : fX10_takeList_b18 F (nI N) (nI T) rs rt mb rby F 0 ms mti = _ := d1
    rw [d1', Option.bind_some]
  · obtain ⟨q1, q2, q3, q4⟩ := hli i hi
    refine ⟨?_, q2, ?_, q4⟩
    · rw [d2 i hi, if_pos (Nat.zero_le _)]; exact q1
    · rw [d3 i hi, if_pos (Nat.zero_le _)]; exact q3
  · rw [hby j hj, d4 j hj]
theorem ends_bad (F : Nat) {f : Int32} (hf : 0 < f) (hm ht rm rtot hfa : Int32) (rs : Nat → Int32) (rt : Nat → Int64) (rby : Nat → Int32) (ms : Nat → Int32) (mti : Nat → Int64) (mb : Nat → Int32) : fX10_ends F hm ht rm rtot f hfa ms rs mti rt mb rby = some (-1, hm, ht, f, hfa, ms, mti, mb) := by
  unfold fX10_ends
  rw [if_neg (Int32.not_le.mpr hf)]
theorem pos_ne {f : Int32} (h : 0 < f) : ¬ f = 0 := fun q => absurd (q ▸ h : (0 : Int32) < 0) (by decide)
theorem rp_loop (F : Nat) (hF : 6000 < F) {TT n : Nat} {fw mt : Nat → Int32} (hTT : TT ≤ 6000) (hn : n ≤ TT) (hn0 : 0 < n) (hm : ∀ k, k < TT → mt k &&& 255 = nI (bw fw k)) (a_f a_p : Nat) (hmany htot : Int32) (ms mb : Nat → Int32) (mti : Nat → Int64) (ov hfa : Int32) : ∀ (m k j m1 m2 : Nat) (pl pc po lw se : Int32) (lt : Int64) (pk bl : Int32) (w e : Nat → Int32) (t : Nat → Int64) (rm rtot pg rse ln ob il : Int32) (rlt : Int64) (rs : Nat → Int32) (rt : Nat → Int64) (rby : Nat → Int32), n - k ≤ m → k ≤ n → j ≤ k → m + 1 < m1 → m + 1 < m2 → RP k pc po lw se lt pk bl w e t rm rtot pg rse ln ob il rlt rs rt rby → ∃ (f fp fa pc' po' lw' se' : Int32) (lt' : Int64) (pk' bl' : Int32) (w' e' : Nat → Int32) (t' : Nat → Int64) (rm' rtot' pg' rse' ln' ob' il' : Int32) (rlt' : Int64) (rs' : Nat → Int32) (rt' : Nat → Int64) (rby' : Nat → Int32), fX6_read_b46 F (nI TT) 1501 fw 2400 601 (nI n) a_f a_p m1 (nI j) (nI k) 0 pl pc po lw se lt pk bl ov w e t = some (f, fp, pc', .ref a_f, nI n, .ref a_p, po', lw', se', lt', pk', bl', ov, w', e', t') ∧ fX10_readPages_b54 F hmany htot mt ms mti mb (nI n) m2 (nI k) rs rt rby rm rtot 0 hfa pg rse ln ob il rlt = fX10_readPages_b151 F hmany htot ms mti mb (if f = 0 then pg' else 0) rm' rtot' f fa pg' rse' ln' ob' il' rlt' rs' rt' rby' ∧ ((0 < f ∧ fp = fa) ∨ (f = 0 ∧ fp = -1 ∧ fa = hfa ∧ pc' = pg' ∧ RLi pk' bl' w' e' t' rm' rtot' rs' rt' rby')) := by
  intro m
  induction m with
  | zero =>
    intro k j m1 m2 pl pc po lw se lt pk bl w e t rm rtot pg rse ln ob il rlt rs rt rby h1 h2 h3 h4 h5 h
    have hk : k = n := by omega
    subst hk
    obtain ⟨n1, rfl⟩ : ∃ n', m1 = n' + 1 := ⟨m1 - 1, by omega⟩
    obtain ⟨n2, rfl⟩ : ∃ n', m2 = n' + 1 := ⟨m2 - 1, by omega⟩
    obtain ⟨P, N, T, R, sz, hPk, hP0, hN, hT, e1, e2, e3, e4, e5, e6, hps, hopn, hlw, hlw2, hse, hlt, hli, hby⟩ := h
    have hP : ¬ pc = 0 := by rw [e1]; exact nI_ne0 (by omega) (by omega)
    have hc : fX6_read_b46 F (nI TT) 1501 fw 2400 601 (nI k) a_f a_p (n1 + 1) (nI j) (nI k) 0 pl pc po lw se lt pk bl ov w e t = fX6_read_b108 F (nI k) a_f a_p 0 pl pc po lw se lt pk bl ov w e t := by
      rw [fX6_read_b46]
      by_cases c : nI k ≤ nI j
      · rw [if_pos c]
      · rw [if_neg c, if_pos (nI_le (Nat.le_refl _) (by omega))]
    have hr : fX10_readPages_b54 F hmany htot mt ms mti mb (nI k) (n2 + 1) (nI k) rs rt rby rm rtot 0 hfa pg rse ln ob il rlt = fX10_readPages_b86 F hmany htot ms mti mb (nI k) rm rtot 0 hfa pg rse ln ob il rlt rs rt rby := by
      rw [fX10_readPages_b54, if_pos (rfl : (0 : Int32) = 0), if_pos (nI_le (Nat.le_refl _) (by omega))]
    rw [hc, hr]
    unfold fX6_read_b108 fX6_faultAtEnd fX10_readPages_b86
    rw [if_pos (rfl : (0 : Int32) = 0), if_neg hP, if_pos (rfl : (0 : Int32) = 0), ← hlw]
    rcases hlw2 with hl | hl
    · rw [if_pos hl, if_pos hl]
      unfold fX10_fails fX10_readPages_b107 fX10_readPages_b130 fX6_read_b131
      rw [Option.bind_some, Option.bind_some]
      dsimp only
      rw [if_neg (show ¬ (5 : Int32) = 0 by decide), if_neg (show ¬ (5 : Int32) = 0 by decide), if_neg (show ¬ (5 : Int32) = 0 by decide)]
      refine ⟨5, nI k, nI k, _, _, _, _, _, _, _, _, _, _, rm, rtot, pg, rse, ln, ob, lw, rlt, rs, rt, rby, rfl, ?_, Or.inl ⟨by decide, rfl⟩⟩
      rw [if_neg (show ¬ (5 : Int32) = 0 by decide)]
    · have hl' : ¬ lw = 0 := by rw [hl]; decide
      rw [if_neg hl', if_neg hl']
      unfold fX10_readPages_b107 fX10_fails fX6_faultAtEnd_b31
      rw [if_pos (rfl : (0 : Int32) = 0)]
      rcases hopn with ⟨q1, q2, q3⟩ | ⟨q1, x, hx, q2, q3⟩
      · rw [if_pos q1, if_pos q2, Option.bind_some]
        unfold fX10_readPages_b130 fX6_read_b131
        rw [if_pos (rfl : (0 : Int32) = 0), if_pos (rfl : (0 : Int32) = 0)]
        refine ⟨0, -1, hfa, _, _, _, _, _, _, _, _, _, _, rm, rtot, pg, rse, ln, ob, lw, rlt, rs, rt, rby, rfl, ?_, Or.inr ⟨rfl, rfl, rfl, by rw [e1, e2], N, T, sz, hN, hT, e3, e4, e5, by rw [e6, q3], by rw [hps, q3], hli, hby⟩⟩
        rw [if_pos (rfl : (0 : Int32) = 0)]
      · rw [if_neg (by rw [q1]; decide), if_neg (by rw [q2]; exact m1_eq (by omega)), Option.bind_some, Option.bind_some]
        unfold fX10_readPages_b130 fX6_read_b131
        dsimp only
        rw [if_neg (show ¬ (6 : Int32) = 0 by decide), if_neg (show ¬ (6 : Int32) = 0 by decide)]
        refine ⟨6, nI k, nI k, _, _, _, _, _, _, _, _, _, _, rm, rtot, pg, rse, ln, ob, lw, rlt, rs, rt, rby, rfl, ?_, Or.inl ⟨by decide, rfl⟩⟩
        rw [if_neg (show ¬ (6 : Int32) = 0 by decide)]
  | succ m ih =>
    intro k j m1 m2 pl pc po lw se lt pk bl w e t rm rtot pg rse ln ob il rlt rs rt rby h1 h2 h3 h4 h5 h
    rcases Nat.lt_or_ge k n with hk | hk
    · obtain ⟨n1, rfl⟩ : ∃ n', m1 = n' + 2 := ⟨m1 - 2, by omega⟩
      obtain ⟨n2, rfl⟩ : ∃ n', m2 = n' + 2 := ⟨m2 - 2, by omega⟩
      have hc : ∀ o4, fX6_faultOf F pc (nI n) po lw se lt (nI TT) 1501 fw pk bl (nI k) = some o4 → fX6_read_b46 F (nI TT) 1501 fw 2400 601 (nI n) a_f a_p (n1 + 1 + 1) (nI j) (nI k) 0 pl pc po lw se lt pk bl ov w e t = if o4 = 0 then ((fX6_takePage F pc po lt (nI TT) 1501 fw pk 2400 bl ov 601 w e t (nI k)).bind fun o6 => fX6_read_b102 F (fX6_read_b46 F (nI TT) 1501 fw 2400 601 (nI n) a_f a_p (n1 + 1)) o6.1 (nI j) o6.2.2.2.2.2.2.2.2.2.1 o6.2.2.2.2.2.2.2.2.2.2.1 o6.2.2.2.2.2.2.2.2.2.2.2 o4 (nI k) o6.2.1 o6.2.2.1 o6.2.2.2.1 o6.2.2.2.2.1 o6.2.2.2.2.2.1 o6.2.2.2.2.2.2.1 o6.2.2.2.2.2.2.2.1 o6.2.2.2.2.2.2.2.2.1) else (fX6_read_b102 F (fX6_read_b46 F (nI TT) 1501 fw 2400 601 (nI n) a_f a_p (n1 + 1)) (nI k) (nI j) w e t o4 (nI k) pc po lw se lt pk bl ov) := by
        intro o4 ho
        rw [fX6_read_b46, if_neg (nI_ge (by omega) (by omega)), if_neg (nI_ge (by omega) (by omega)), if_pos (rfl : (0 : Int32) = 0), ho, Option.bind_some]
      rcases page_rel F hF hTT hn hk hm ov 0 hfa h with ⟨f, hf, p1, p2⟩ | ⟨p1, pc', po', lw', se', lt', pk', bl', w', e', t', rm', rtot', pg', rse', ln', ob', il', rlt', rs', rt', rby', p2, p3, p4, p5, p6, p7⟩
      · have hf0 := pos_ne hf
        rw [show n1 + 2 = n1 + 1 + 1 from rfl, hc f p1, if_neg hf0]
        have hr : fX10_readPages_b54 F hmany htot mt ms mti mb (nI n) (n2 + 2) (nI k) rs rt rby rm rtot 0 hfa pg rse ln ob il rlt = fX10_readPages_b151 F hmany htot ms mti mb 0 rm rtot f (nI k) pg rse ln ob il rlt rs rt rby := by
          rw [fX10_readPages_b54, if_pos (rfl : (0 : Int32) = 0), if_neg (nI_ge (by omega) (by omega)), p2, Option.bind_some]
          dsimp only
          rw [if_pos (rfl : (0 : Int32) = 0), fX10_readPages_b54, if_neg hf0]
          unfold fX10_readPages_b86
          rw [if_neg hf0]
          unfold fX10_readPages_b107
          rw [if_neg hf0]
          unfold fX10_readPages_b130
          rw [if_neg hf0]
        rw [hr]
        refine ⟨f, nI k, nI k, pc, po, lw, se, lt, pk, bl, w, e, t, rm, rtot, pg, rse, ln, ob, il, rlt, rs, rt, rby, ?_, by rw [if_neg hf0], Or.inl ⟨hf, rfl⟩⟩
        unfold fX6_read_b102
        simp only [nm_eq]
        rw [nI_1, fX6_read_b46]
        have hb : fX6_read_b108 F (nI n) a_f a_p f (nI k) pc po lw se lt pk bl ov w e t = some (f, nI k, pc, .ref a_f, nI n, .ref a_p, po, lw, se, lt, pk, bl, ov, w, e, t) := by
          unfold fX6_read_b108 fX6_read_b131
          rw [if_neg hf0, if_neg hf0]
        by_cases c : nI n ≤ nI (j + 1)
        · rw [if_pos c, hb]
        · rw [if_neg c, if_neg (nI_ge (by omega) (by omega)), if_neg hf0, hb]
      · obtain ⟨f, fp, fa, c1, c2, c3, c4, c5, c6, c7, c8, c9, c10, c11, c12, c13, c14, c15, c16, c17, c18, c19, c20, c21, d1, d2, d3⟩ := ih (k + plen (bw fw) k) (j + 1) (n1 + 1) (n2 + 1) (nI k) pc' po' lw' se' lt' pk' bl' w' e' t' rm' rtot' pg' rse' ln' ob' il' rlt' rs' rt' rby' (by omega) (by omega) (by omega) (by omega) (by omega) p7
        refine ⟨f, fp, fa, c1, c2, c3, c4, c5, c6, c7, c8, c9, c10, c11, c12, c13, c14, c15, c16, c17, c18, c19, c20, c21, ?_, ?_, d3⟩
        · rw [show n1 + 2 = n1 + 1 + 1 from rfl, hc 0 p1, if_pos (rfl : (0 : Int32) = 0), p4, Option.bind_some]
          unfold fX6_read_b102
          simp only [nm_eq]
          rw [nI_1]
          exact d1
        · rw [show n2 + 2 = n2 + 1 + 1 from rfl, fX10_readPages_b54, if_pos (rfl : (0 : Int32) = 0), if_neg (nI_ge (by omega) (by omega)), p5, Option.bind_some]
          dsimp only
          rw [if_neg (show ¬ (1 : Int32) = 0 by decide), p6, Option.bind_some, nm_eq, nI_add]
          exact d2
    · exact ih k j m1 m2 pl pc po lw se lt pk bl w e t rm rtot pg rse ln ob il rlt rs rt rby (by omega) h2 h3 (by omega) (by omega) h
theorem ok_readPages : OP_readPages Fu := by
  intro h_fault h_faultPlace h_pagesRead a_length a_overfull c_aw m_packets mb_length mb_overfull c_mbw c_me c_mt r_fault r_place r_pageCount r_file r_limit r_target r_packetIsOpen r_lastWasRead r_serial r_latestTime a_a a_m a_l M_taped M_many M_total M_readMany M_readTotal M_fault M_faultAt M_told M_toldAt M_pageCount M_pages M_serial M_lastNumber M_openBytes M_isLast M_lastTime c_Mtape c_Msize c_MreadSize c_Mtime c_MreadTime c_Mbytes c_MreadBytes o_length c_ow l_packets lb_length c_lbw c_le c_lt h_clustersRead h_blocksRead M_outMany c_Mout M_clusterCount M_blockCount c_MheadRow c_MinfoRow c_MtracksRow c_McodecRow s_length c_sw q0 hrel
  obtain ⟨⟨TA, hTA, e1, e2, hA⟩, hO, hL, ⟨hf1, hf2, hf3, hf4, hf5⟩, hC⟩ := id hrel
  unfold fX9_readPages fX10_readPages fX9_isOnTape fX9_isOnTape_b20
  by_cases h0 : q0 < 0
  · rw [if_pos h0, if_pos h0, if_pos isb0, Option.bind_some, if_pos rfl]
    exact ⟨_, _, rfl, rfl, rfl, Or.inl ⟨rfl, rfl, hrel⟩⟩
  rw [if_neg h0, if_neg h0]
  have e12 : M_taped = a_length := by rw [e1, e2]
  rw [e12]
  by_cases h1 : a_length < q0
  · rw [if_pos h1, if_neg (Int32.not_le.mpr h1), if_pos isb0, Option.bind_some, if_pos rfl]
    refine ⟨_, _, rfl, rfl, rfl, Or.inl ⟨rfl, rfl, ?_⟩⟩
    rw [e12] at hrel
    exact hrel
  rw [if_neg h1, if_pos (Int32.not_lt.mp h1), if_pos isb1, Option.bind_some, if_neg (by decide)]
  obtain ⟨n, hn, rfl⟩ := nI_of h0
  have hnT : n ≤ TA := by
    rw [e1, nI_ltI (by omega) hn] at h1; omega
  unfold fX4_empty fX8_empty fX10_begin
  rw [Option.bind_some, Option.bind_some, Option.bind_some]
  dsimp only
  unfold fX6_read
  rw [e1]
  have hm : ∀ k, k < TA → c_Mtape k &&& 255 = nI (bw c_aw k) := fun k hk => by rw [← hA k hk, rb_bw]
  have fin : ∀ (f fp fa pc' po' lw' se' : Int32) (lt' : Int64) (pk' bl' : Int32) (w' e' : Nat → Int32) (t' : Nat → Int64) (rm' rtot' pg' rse' ln' ob' il' : Int32) (rlt' : Int64) (rs' : Nat → Int32) (rt' : Nat → Int64) (rby' : Nat → Int32), ((0 < f ∧ fp = fa) ∨ (f = 0 ∧ fp = -1 ∧ fa = -1 ∧ pc' = pg' ∧ RLi pk' bl' w' e' t' rm' rtot' rs' rt' rby')) → ∃ (r9 : Int32 × Nat × Nat × Int32 × Int32 × Int32 × Int32 × Int32 × Int32 × Int32 × Int32 × (Nat → Int32) × (Nat → Int32) × (Nat → Int64) × Int32 × Int32 × Int32 × Value × Int32 × Value × Int32 × Int32 × Int32 × Int64) (r10 : Int32 × Int32 × Int32 × Int32 × Int32 × Int32 × Int32 × Int32 × Int32 × Int32 × Int32 × Int32 × Int32 × Int32 × Int32 × Int32 × Int64 × (Nat → Int32) × (Nat → Int32) × (Nat → Int64) × (Nat → Int64) × (Nat → Int32) × (Nat → Int32)), (if f = 0 then (fX9_readPages_b75 Fu a_m a_l pc' f fp f fp pc' (.ref a_a) (nI n) (.ref a_m) po' lw' se' lt' pk' bl' 0 w' e' t') else (fX9_readPages_b75 Fu a_m a_l 0 f fp f fp pc' (.ref a_a) (nI n) (.ref a_m) po' lw' se' lt' pk' bl' 0 w' e' t')) = some r9 ∧ fX10_readPages_b151 Fu M_many M_total c_Msize c_Mtime c_Mbytes (if f = 0 then pg' else 0) rm' rtot' f fa pg' rse' ln' ob' il' rlt' rs' rt' rby' = some r10 ∧ r9.1 = r10.1 ∧ ((r9.2.1 = a_l ∧ r9.2.2.1 = a_m ∧ REL r9.2.2.2.2.2.2.1 c_aw o_length c_ow l_packets lb_length c_lbw c_le c_lt r9.2.2.2.1 r9.2.2.2.2.1 r9.2.2.2.2.2.1 h_clustersRead h_blocksRead r10.2.1 c_Mtape M_outMany c_Mout r10.2.2.1 r10.2.2.2.1 r10.2.2.2.2.2.2.2.2.2.2.2.2.2.2.2.2.2.1 r10.2.2.2.2.2.2.2.2.2.2.2.2.2.2.2.2.2.2.2.1 r10.2.2.2.2.2.2.2.2.2.2.2.2.2.2.2.2.2.2.2.2.2.1 r10.2.2.2.2.2.2.2.2.1 r10.2.2.2.2.2.2.2.2.2.1 r10.2.2.2.2.2.2.2.2.2.2.1 M_clusterCount M_blockCount c_MheadRow c_MinfoRow c_MtracksRow c_McodecRow) ∨ (r9.2.1 = a_m ∧ r9.2.2.1 = a_l ∧ REL r9.2.2.2.2.2.2.1 c_aw o_length c_ow r9.2.2.2.2.2.2.2.2.1 r9.2.2.2.2.2.2.2.2.2.1 r9.2.2.2.2.2.2.2.2.2.2.2.1 r9.2.2.2.2.2.2.2.2.2.2.2.2.1 r9.2.2.2.2.2.2.2.2.2.2.2.2.2.1 r9.2.2.2.1 r9.2.2.2.2.1 r9.2.2.2.2.2.1 h_clustersRead h_blocksRead r10.2.1 c_Mtape M_outMany c_Mout r10.2.2.1 r10.2.2.2.1 r10.2.2.2.2.2.2.2.2.2.2.2.2.2.2.2.2.2.1 r10.2.2.2.2.2.2.2.2.2.2.2.2.2.2.2.2.2.2.2.1 r10.2.2.2.2.2.2.2.2.2.2.2.2.2.2.2.2.2.2.2.2.2.1 r10.2.2.2.2.2.2.2.2.1 r10.2.2.2.2.2.2.2.2.2.1 r10.2.2.2.2.2.2.2.2.2.2.1 M_clusterCount M_blockCount c_MheadRow c_MinfoRow c_MtracksRow c_McodecRow)) := by
    intro f fp fa pc' po' lw' se' lt' pk' bl' w' e' t' rm' rtot' pg' rse' ln' ob' il' rlt' rs' rt' rby' hh
    unfold fX9_readPages_b75 fX9_takeSpareList fX8_empty fX10_readPages_b151
    rw [Option.bind_some]
    rcases hh with ⟨hf, hp⟩ | ⟨hf, hp, ha, hpc, hl⟩
    · have hf0 := pos_ne hf
      rw [if_neg hf0, if_neg hf0, if_neg hf0, ends_bad Fu hf, Option.bind_some, Option.bind_some]
      exact ⟨_, _, rfl, rfl, rfl, Or.inl ⟨rfl, rfl, RBy_0 _ _, hO, hL, ⟨rfl, hp, rfl, hf4, hf5⟩, hC⟩⟩
    · obtain ⟨ms', mti', mb', g1, g2, g3⟩ := ends_RLi Fu (by unfold Fu; omega) M_many M_total fa c_Msize c_Mtime c_Mbytes hl
      subst hf
      rw [if_pos (rfl : (0 : Int32) = 0), if_pos (rfl : (0 : Int32) = 0), if_pos (rfl : (0 : Int32) = 0), g1, Option.bind_some, Option.bind_some]
      exact ⟨_, _, rfl, rfl, g3, Or.inr ⟨rfl, rfl, RBy_0 _ _, hO, g2, ⟨rfl, hp.trans ha.symm, hpc, hf4, hf5⟩, hC⟩⟩
  rcases Nat.eq_zero_or_pos n with hz | hpos
  · subst hz
    have hc : fX6_read_b46 Fu (nI TA) 1501 c_aw 2400 601 (nI 0) a_a a_m Fu 0 0 0 r_place 0 0 0 r_serial 0 0 0 0 c_mbw c_me c_mt = some (1, nI 0, 0, .ref a_a, nI 0, .ref a_m, 0, 0, r_serial, 0, 0, 0, 0, c_mbw, c_me, c_mt) := by
      unfold Fu
      rw [fX6_read_b46, if_pos (show nI 0 ≤ 0 by decide)]
      unfold fX6_read_b108 fX6_faultAtEnd
      rw [if_pos (rfl : (0 : Int32) = 0), if_pos (rfl : (0 : Int32) = 0), Option.bind_some]
      unfold fX6_read_b131
      rw [if_neg (show ¬ (1 : Int32) = 0 by decide)]
    have hr : ∀ a b c d, fX10_readPages_b54 Fu M_many M_total c_Mtape c_Msize c_Mtime c_Mbytes (nI 0) Fu 0 c_MreadSize c_MreadTime c_MreadBytes a b 1 0 0 c d (-1) 0 (-1) = fX10_readPages_b151 Fu M_many M_total c_Msize c_Mtime c_Mbytes 0 a b 1 0 0 c d (-1) 0 (-1) c_MreadSize c_MreadTime c_MreadBytes := by
      intro a b c d
      unfold Fu
      rw [fX10_readPages_b54, if_neg (show ¬ (1 : Int32) = 0 by decide)]
      unfold fX10_readPages_b86
      rw [if_neg (show ¬ (1 : Int32) = 0 by decide)]
      unfold fX10_readPages_b107
      rw [if_neg (show ¬ (1 : Int32) = 0 by decide)]
      unfold fX10_readPages_b130
      rw [if_neg (show ¬ (1 : Int32) = 0 by decide)]
    rw [hc, if_pos (nI_0), Option.bind_some]
    unfold fX10_fails
    rw [Option.bind_some]
    dsimp only
    rw [hr]
    exact fin 1 (nI 0) 0 0 0 0 r_serial 0 0 0 c_mbw c_me c_mt 0 0 0 _ _ (-1) 0 (-1) c_MreadSize c_MreadTime c_MreadBytes (Or.inl ⟨by decide, nI_0⟩)
  · rw [if_neg (nI_ne0 hpos hn)]
    have hRP : RP 0 0 0 0 r_serial 0 0 0 c_mbw c_me c_mt 0 0 0 M_serial M_lastNumber (-1) 0 (-1) c_MreadSize c_MreadTime c_MreadBytes := ⟨0, 0, 0, 0, fun _ => 0, by omega, fun _ => rfl, by omega, by omega, rfl, rfl, rfl, rfl, rfl, rfl, rfl, Or.inl ⟨rfl, rfl, rfl⟩, rfl, Or.inl rfl, Or.inl rfl, Or.inl ⟨rfl, rfl⟩, fun i hi => by omega, fun j hj => by omega⟩
    obtain ⟨f, fp, fa, c1, c2, c3, c4, c5, c6, c7, c8, c9, c10, c11, c12, c13, c14, c15, c16, c17, c18, c19, c20, c21, d1, d2, d3⟩ := rp_loop Fu (by unfold Fu; omega) hTA hnT hpos hm a_a a_m M_many M_total c_Msize c_Mbytes c_Mtime 0 (-1) n 0 0 Fu Fu r_place 0 0 0 r_serial 0 0 0 c_mbw c_me c_mt 0 0 0 M_serial M_lastNumber (-1) 0 (-1) c_MreadSize c_MreadTime c_MreadBytes (by omega) (by omega) (by omega) (by unfold Fu; omega) (by unfold Fu; omega) hRP
    have d1' : fX6_read_b46 Fu (nI TA) 1501 c_aw 2400 601 (nI n) a_a a_m Fu 0 0 0 r_place 0 0 0 r_serial 0 0 0 0 c_mbw c_me c_mt = _ := d1
    have d2' : fX10_readPages_b54 Fu M_many M_total c_Mtape c_Msize c_Mtime c_Mbytes (nI n) Fu 0 c_MreadSize c_MreadTime c_MreadBytes 0 0 0 (-1) 0 M_serial M_lastNumber (-1) 0 (-1) = _ := d2
    rw [d1', d2', Option.bind_some]
    exact fin f fp fa c1 c2 c3 c4 c5 c6 c7 c8 c9 c10 c11 c12 c13 c14 c15 c16 c17 c18 c19 c20 c21 d3
