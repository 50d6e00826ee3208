-- a page: the same fault, or the same packets
def OKo (lw : Int32) (fl : Nat) (se num ser : Int32) (P : Nat) : Prop := lw = 0 ∧ (nI fl &&& 2 = 2 ↔ P = 0) ∧ num = nI P ∧ (P = 0 ∨ ser = se)
theorem order_c (F : Nat) (hF : 6000 < F) {TT k P fl : Nat} {fw : Nat → Int32} {lw se : Int32} (hTT : TT ≤ 6000) (hk : k + 27 ≤ TT) (hP : P ≤ k) (hfl : fl < 8) : (OKo lw fl se (loV (bw fw) (k + 18) 4 0).toInt32 (loV (bw fw) (k + 14) 4 0).toInt32 P → fX6_isOutOfOrder F (nI P) lw se (nI TT) 1501 fw (nI k) (nI fl) = some 0) ∧ (¬ OKo lw fl se (loV (bw fw) (k + 18) 4 0).toInt32 (loV (bw fw) (k + 14) 4 0).toInt32 P → fX6_isOutOfOrder F (nI P) lw se (nI TT) 1501 fw (nI k) (nI fl) = some 1) := by
  have n18 : fX6_numberAt F (nI TT) 1501 fw (nI k + 18) = some (loV (bw fw) (k + 18) 4 0).toInt32 := by
    unfold fX6_numberAt
    have h : fX8_lowFirst F (nI TT) 1501 fw (nI k + 18) 4 = some (loV (bw fw) (k + 18) 4 0) := by
      rw [i18, nI_add]
      exact clow F (m := 4) (by omega) (by omega) (by omega) (by omega) (by omega)
    rw [h, Option.bind_some]
  have n14 : fX6_numberAt F (nI TT) 1501 fw (nI k + 14) = some (loV (bw fw) (k + 14) 4 0).toInt32 := by
    unfold fX6_numberAt
    have h : fX8_lowFirst F (nI TT) 1501 fw (nI k + 14) 4 = some (loV (bw fw) (k + 14) 4 0) := by
      rw [i14, nI_add]
      exact clow F (m := 4) (by omega) (by omega) (by omega) (by omega) (by omega)
    rw [h, Option.bind_some]
  unfold OKo fX6_isOutOfOrder fX6_isOutOfOrder_b11 fX6_isOutOfOrder_b32 fX6_isOutOfOrder_b81
  rw [n18, n14]
  generalize (loV (bw fw) (k + 18) 4 0).toInt32 = num
  generalize (loV (bw fw) (k + 14) 4 0).toInt32 = ser
  by_cases hl : lw = 0
  · rcases fl2 fl hfl with ⟨a, b⟩ | ⟨a, b⟩
    · rw [if_pos a, if_pos hl]
      by_cases hp : P = 0
      · rw [if_pos (by rw [hp, nI_0]), if_neg (by decide)]
        exact ⟨fun h => absurd (h.2.1.mpr hp) b, fun _ => rfl⟩
      · rw [if_neg (nI_ne0 (by omega) (by omega)), if_pos rfl, Option.bind_some]
        by_cases hn : num = nI P
        · rw [if_pos hn, if_neg (nI_nle (by omega) (by omega)), Option.bind_some, if_pos isb0, if_pos isb1]
          by_cases hs : ser = se
          · rw [if_pos hs]
            exact ⟨fun _ => rfl, fun h => absurd ⟨hl, ⟨fun q => absurd q b, fun q => absurd q hp⟩, hn, Or.inr hs⟩ h⟩
          · rw [if_neg hs]
            exact ⟨fun h => absurd (h.2.2.2.resolve_left hp) hs, fun _ => rfl⟩
        · rw [if_neg hn]
          exact ⟨fun h => absurd h.2.2.1 hn, fun _ => rfl⟩
    · rw [if_neg a, if_pos hl]
      by_cases hp : P = 0
      · rw [if_pos (by rw [hp, nI_0]), if_pos rfl, Option.bind_some]
        by_cases hn : num = nI P
        · rw [if_pos hn, if_pos (show nI P ≤ 0 from by rw [hp]; decide), if_pos isb0]
          exact ⟨fun _ => rfl, fun h => absurd ⟨hl, ⟨fun _ => hp, fun _ => b⟩, hn, Or.inl hp⟩ h⟩
        · rw [if_neg hn]
          exact ⟨fun h => absurd h.2.2.1 hn, fun _ => rfl⟩
      · rw [if_neg (nI_ne0 (by omega) (by omega)), if_neg (by decide)]
        exact ⟨fun h => absurd (h.2.1.mp b) hp, fun _ => rfl⟩
  · refine ⟨fun h => absurd h.1 hl, fun _ => ?_⟩
    rcases fl2 fl hfl with ⟨a, b⟩ | ⟨a, b⟩
    · rw [if_pos a, if_neg hl]
    · rw [if_neg a, if_neg hl]
theorem order_r (F : Nat) {P fl k : Nat} (hP : P < 2 ^ 31) (hfl : fl < 8) {il rse ln num ser : Int32} (hln : P = 0 ∨ ln + 1 = nI P) (rm rtot hf hfa ob : Int32) (rlt : Int64) (mt rs : Nat → Int32) (rt : Nat → Int64) (rby : Nat → Int32) (len : Int32) : (OKo il fl rse num ser P → (if nI P = 0 then fX10_page_b150 F rm rtot hf hfa (nI P) rse ln ob il rlt mt rs rt rby (nI k) ser num len (nI fl) 1 else fX10_page_b150 F rm rtot hf hfa (nI P) rse ln ob il rlt mt rs rt rby (nI k) ser num len (nI fl) 0) = fX10_page_b217 F rm rtot hf hfa (nI P) rse ln ob il rlt mt rs rt rby (nI k) (nI fl) len num ser) ∧ (¬ OKo il fl rse num ser P → (if nI P = 0 then fX10_page_b150 F rm rtot hf hfa (nI P) rse ln ob il rlt mt rs rt rby (nI k) ser num len (nI fl) 1 else fX10_page_b150 F rm rtot hf hfa (nI P) rse ln ob il rlt mt rs rt rby (nI k) ser num len (nI fl) 0) = some (0, rm, rtot, 5, nI k, nI P, rse, ln, ob, il, rlt, rs, rt, rby)) := by
  have hb210 : fX10_page_b210 F rm rtot (nI P) rse ln ob il rlt rs rt rby (nI k) = some (0, rm, rtot, 5, nI k, nI P, rse, ln, ob, il, rlt, rs, rt, rby) := by
    unfold fX10_page_b210 fX10_fails
    rw [Option.bind_some, if_pos isb0]
  unfold OKo fX10_page_b150 fX10_page_b171 fX10_page_b193
  rw [hb210]
  by_cases hl : il = 0
  · rcases fl2 fl hfl with ⟨a, b⟩ | ⟨a, b⟩
    · by_cases hp : P = 0
      · rw [if_pos (show nI P = 0 from by rw [hp, nI_0]), if_pos hl, if_neg b, if_neg (show ¬ (0 : Int32) = 1 by decide)]
        exact ⟨fun h => absurd (h.2.1.mpr hp) b, fun _ => rfl⟩
      · rw [if_neg (nI_ne0 (by omega) hP), if_pos hl, if_neg b, if_pos (rfl : (0 : Int32) = 0), if_pos (rfl : (0 : Int32) = 0), hln.resolve_left hp]
        by_cases hn : num = nI P
        · rw [if_pos hn, if_pos (rfl : (0 : Int32) = 0)]
          by_cases hs : ser = rse
          · rw [if_pos hs]
            exact ⟨fun _ => rfl, fun h => absurd ⟨hl, ⟨fun q => absurd q b, fun q => absurd q hp⟩, hn, Or.inr hs⟩ h⟩
          · rw [if_neg hs]
            exact ⟨fun h => absurd (h.2.2.2.resolve_left hp) hs, fun _ => rfl⟩
        · rw [if_neg hn]
          exact ⟨fun h => absurd h.2.2.1 hn, fun _ => rfl⟩
    · by_cases hp : P = 0
      · rw [if_pos (show nI P = 0 from by rw [hp, nI_0]), if_pos hl, if_pos b, if_pos (rfl : (1 : Int32) = 1), if_neg (show ¬ (1 : Int32) = 0 by decide)]
        by_cases hn : num = nI P
        · rw [if_pos (show num = 0 by rw [hn, hp, nI_0]), if_neg (show ¬ (1 : Int32) = 0 by decide)]
          exact ⟨fun _ => rfl, fun h => absurd ⟨hl, ⟨fun _ => hp, fun _ => b⟩, hn, Or.inl hp⟩ h⟩
        · rw [if_neg (show ¬ num = 0 by rw [← nI_0, ← hp]; exact hn)]
          exact ⟨fun h => absurd h.2.2.1 hn, fun _ => rfl⟩
      · rw [if_neg (nI_ne0 (by omega) hP), if_pos hl, if_pos b, if_neg (show ¬ (1 : Int32) = 0 by decide)]
        exact ⟨fun h => absurd (h.2.1.mp b) hp, fun _ => rfl⟩
  · refine ⟨fun h => absurd h.1 hl, fun _ => ?_⟩
    by_cases hp : P = 0
    · rw [if_pos (show nI P = 0 from by rw [hp, nI_0]), if_neg hl]
    · rw [if_neg (nI_ne0 (by omega) hP), if_neg hl]
def TOK (E : Nat) (lt tm : Int64) : Prop := (E = 0 ∧ tm = -1) ∨ (0 < E ∧ ¬ tm < lt ∧ tm ≤ 1099511627775)
theorem time_c (F : Nat) {E : Nat} (hE : E < 2 ^ 31) (lt tm : Int64) : (TOK E lt tm → fX6_isTimeWrong F lt tm (nI E) = some 0) ∧ (¬ TOK E lt tm → fX6_isTimeWrong F lt tm (nI E) = some 1) := by
  unfold TOK fX6_isTimeWrong fX6_isTimeWrong_b17 fX6_isTimeWrong_b35 fX6_isTimeWrong_b40
  rw [if_pos isb0, if_pos isb1]
  by_cases c : E = 0
  · rw [if_pos (by rw [c, nI_0])]
    by_cases d : tm = -1
    · rw [if_pos d]; exact ⟨fun _ => rfl, fun h => absurd (Or.inl ⟨c, d⟩) h⟩
    · rw [if_neg d]; exact ⟨fun h => by rcases h with h | h; exact absurd h.2 d; omega, fun _ => rfl⟩
  · rw [if_neg (nI_ne0 (by omega) hE)]
    by_cases d : tm < lt
    · rw [if_pos d]; exact ⟨fun h => by rcases h with h | h; omega; exact absurd d h.2.1, fun _ => rfl⟩
    · rw [if_neg d]
      by_cases f : tm ≤ 1099511627775
      · rw [if_pos f]; exact ⟨fun _ => rfl, fun h => absurd (Or.inr ⟨by omega, d, f⟩) h⟩
      · rw [if_neg f]; exact ⟨fun h => by rcases h with h | h; omega; exact absurd h.2.2 f, fun _ => rfl⟩
theorem tok_iff {lt rlt tm : Int64} (h : (rlt = -1 ∧ lt = 0) ∨ (rlt = lt ∧ 0 ≤ lt)) : (¬ tm < lt ∧ tm ≤ 1099511627775) ↔ (¬ tm < 0 ∧ ¬ 1099511627775 < tm ∧ rlt ≤ tm) := by
  rw [Int64.not_lt, Int64.not_lt, Int64.not_lt]
  rcases h with ⟨h1, h2⟩ | ⟨h1, h2⟩
  · rw [h1, h2]
    exact ⟨fun q => ⟨q.1, q.2, Int64.le_trans (by decide) q.1⟩, fun q => ⟨q.1, q.2.1⟩⟩
  · rw [h1]
    exact ⟨fun q => ⟨Int64.le_trans h2 q.1, q.2, q.1⟩, fun q => ⟨q.2.2, q.2.1⟩⟩
theorem tok_pos {E : Nat} {lt rlt tm : Int64} (h : (rlt = -1 ∧ lt = 0) ∨ (rlt = lt ∧ 0 ≤ lt)) (hk : TOK E lt tm) (hE : 0 < E) : 0 ≤ tm ∧ tm ≤ 1099511627775 := by
  rcases hk with hk | hk
  · omega
  · have := (tok_iff h).mp ⟨hk.2.1, hk.2.2⟩
    exact ⟨Int64.not_lt.mp this.1, hk.2.2⟩
theorem packets_eq (F : Nat) (hF : 6000 < F) {TT k P N T R op s E body : Nat} {fw mt : Nat → Int32} (hTT : TT ≤ 6000) (hm : ∀ k, k < TT → mt k &&& 255 = nI (bw fw k)) (hs : s = bw fw (k + 26)) (hE : E = ecnt (bw fw) k s) (hbd : body = ssum (bw fw) k s) (hwh : k + 27 + s + body ≤ TT) {lw ob rse ln : Int32} {lt rlt tm : Int64} {rs rby : Nat → Int32} {rt : Nat → Int64} (hf hfa : Int32) (htm : tm = loV (bw fw) (k + 6) 8 0) (hN : N ≤ 64) (hT : T ≤ 2400) (hop : T = R + op) (hopn : (ob = -1 ∧ op = 0) ∨ (ob = nI op)) (hlt : (rlt = -1 ∧ lt = 0) ∨ (rlt = lt ∧ 0 ≤ lt)) (ser num fl : Int32) : (¬ TOK E lt tm → fX10_packets F (nI N) (nI R) hf hfa (nI P) rse ln ob lw rlt mt rs rt rby (nI k) (nI (plen (bw fw) k)) ser num fl = some (0, nI N, nI R, 7, nI k, nI P, rse, ln, ob, lw, rlt, rs, rt, rby)) ∧ (TOK E lt tm → ¬ (N + E ≤ 64 ∧ T + body ≤ 2400) → fX10_packets F (nI N) (nI R) hf hfa (nI P) rse ln ob lw rlt mt rs rt rby (nI k) (nI (plen (bw fw) k)) ser num fl = some (0, nI N, nI R, 8, nI k, nI P, rse, ln, ob, lw, rlt, rs, rt, rby)) ∧ (TOK E lt tm → (N + E ≤ 64 ∧ T + body ≤ 2400) → fX10_packets F (nI N) (nI R) hf hfa (nI P) rse ln ob lw rlt mt rs rt rby (nI k) (nI (plen (bw fw) k)) ser num fl = fX10_packets_b185 F (nI N) (nI R) hf hfa (nI P) ob rlt mt rs rt (nI k) ser num fl F 0 (nI op) (nI s) (nI E) (nI body) tm rby) := by
  have hs2 : s < 256 := by rw [hs]; exact bw_lt _ _
  have hEs : E ≤ s := by rw [hE]; exact ecnt_le _ _ _
  have hbs : body ≤ 255 * s := by rw [hbd]; exact ssum_le (bw_lt fw) k s
  have hpl : plen (bw fw) k = 27 + s + body := by unfold plen; rw [← hs, hbd]
  have r26 : fX10_at F mt (nI k + 26) = some (nI s) := by
    rw [i26, nI_add, hs]
    exact rat_B F hm hTT (by omega)
  have r6 : fX10_low F mt (nI k + 6) 8 = some tm := by
    rw [i6, nI_add, htm]
    exact rlow F (m := 8) hm hTT (by omega) (by omega)
  have hb120 : fX10_packets_b120 F (nI N) (nI R) (nI P) rse ln ob lw rlt rs rt rby (nI k) = some (0, nI N, nI R, 7, nI k, nI P, rse, ln, ob, lw, rlt, rs, rt, rby) := by
    unfold fX10_packets_b120 fX10_fails
    rw [Option.bind_some, if_pos isb0]
  have hb174 : fX10_packets_b174 F (nI N) (nI R) (nI P) rse ln ob lw rlt rs rt rby (nI k) = some (0, nI N, nI R, 8, nI k, nI P, rse, ln, ob, lw, rlt, rs, rt, rby) := by
    unfold fX10_packets_b174 fX10_fails
    rw [Option.bind_some, if_pos isb0]
  have hb128 : fX10_packets_b128 F (nI N) (nI R) hf hfa (nI P) rse ln ob lw rlt mt rs rt rby (nI k) ser num fl tm (nI s) (nI E) (nI body) = fX10_packets_b144 F (nI N) (nI R) hf hfa (nI P) rse ln ob lw rlt mt rs rt rby (nI k) ser num fl (nI s) (nI E) (nI body) tm (nI op) := by
    unfold fX10_packets_b128
    rcases hopn with ⟨h1, h2⟩ | h1
    · rw [if_pos h1, h2, nI_0]
    · rw [if_neg (show ¬ ob = -1 from by rw [h1]; exact m1_eq (by omega)), h1]
  have hb144 : ((N + E ≤ 64 ∧ T + body ≤ 2400) → fX10_packets_b144 F (nI N) (nI R) hf hfa (nI P) rse ln ob lw rlt mt rs rt rby (nI k) ser num fl (nI s) (nI E) (nI body) tm (nI op) = fX10_packets_b185 F (nI N) (nI R) hf hfa (nI P) ob rlt mt rs rt (nI k) ser num fl F 0 (nI op) (nI s) (nI E) (nI body) tm rby) ∧ (¬ (N + E ≤ 64 ∧ T + body ≤ 2400) → fX10_packets_b144 F (nI N) (nI R) hf hfa (nI P) rse ln ob lw rlt mt rs rt rby (nI k) ser num fl (nI s) (nI E) (nI body) tm (nI op) = some (0, nI N, nI R, 8, nI k, nI P, rse, ln, ob, lw, rlt, rs, rt, rby)) := by
    unfold fX10_packets_b144
    rw [hb174, i64, i2400, nI_add, nI_add, nI_add]
    constructor
    · intro h
      rw [if_neg (nI_nlt h.1 (by omega)), if_pos (nI_le (by omega) (by omega))]
    · intro h
      by_cases c : N + E ≤ 64
      · rw [if_neg (nI_nlt c (by omega)), if_neg (nI_ge (by omega) (by omega))]
      · rw [if_pos (nI_lt (by omega) (by omega))]
  obtain ⟨q, hq⟩ : ∃ q, F = (q + 1) + s := ⟨F - s - 1, by omega⟩
  have hrun := b25_run F (bw_lt fw) hTT hm (k := k) (s := s) (by omega) (nI N) (nI R) hf hfa (nI P) rse ln ob lw rlt rs rt rby ser num fl (nI body) s 0 (by omega) (q + 1)
  rw [← hq, ← hE] at hrun
  have hz2 : ecnt (bw fw) k 0 = 0 := rfl
  rw [hz2, nI_0] at hrun
  have hpk : fX10_packets F (nI N) (nI R) hf hfa (nI P) rse ln ob lw rlt mt rs rt rby (nI k) (nI (plen (bw fw) k)) ser num fl = fX10_packets_b25 F (nI N) (nI R) hf hfa (nI P) rse ln ob lw rlt mt rs rt rby (nI k) ser num fl (q + 1) (nI s) (nI body) (nI E) (nI s) := by
    unfold fX10_packets
    rw [r26, Option.bind_some, nm_eq, i27, hpl, pk_sub (by omega), pk_sub (by omega), show 27 + s + body - 27 - s = body by omega]
    exact hrun
  rw [hpk, fX10_packets_b25, if_pos (nI_le (Nat.le_refl _) (by omega)), r6, Option.bind_some, hb120, hb128]
  by_cases c : E = 0
  · rw [if_pos (show nI E ≤ 0 from by rw [c]; decide)]
    by_cases d : tm = -1
    · rw [if_pos d]
      exact ⟨fun h => absurd (Or.inl ⟨c, d⟩) h, fun _ h => hb144.2 h, fun _ h => hb144.1 h⟩
    · rw [if_neg d]
      have hno : ¬ TOK E lt tm := fun h => by
        rcases h with h | h
        · exact d h.2
        · omega
      exact ⟨fun _ => rfl, fun h => absurd h hno, fun h => absurd h hno⟩
  · rw [if_neg (nI_nle (by omega) (by omega))]
    by_cases d : ¬ tm < lt ∧ tm ≤ 1099511627775
    · obtain ⟨x1, x2, x3⟩ := (tok_iff hlt).mp d
      rw [if_neg x1, if_neg x2, if_pos x3]
      exact ⟨fun h => absurd (Or.inr ⟨by omega, d⟩) h, fun _ h => hb144.2 h, fun _ h => hb144.1 h⟩
    · have hno : ¬ TOK E lt tm := fun h => by
        rcases h with h | h
        · omega
        · exact d h.2
      refine ⟨fun _ => ?_, fun h => absurd h hno, fun h => absurd h hno⟩
      by_cases x1 : tm < 0
      · rw [if_pos x1]
      · rw [if_neg x1]
        by_cases x2 : 1099511627775 < tm
        · rw [if_pos x2]
        · rw [if_neg x2, if_neg (fun x3 => d ((tok_iff hlt).mpr ⟨x1, x2, x3⟩))]
theorem page_rel (F : Nat) (hF : 6000 < F) {TT n k : Nat} {fw mt : Nat → Int32} (hTT : TT ≤ 6000) (hn : n ≤ TT) (hk : k < n) (hm : ∀ k, k < TT → mt k &&& 255 = nI (bw fw k)) {pc po lw se : Int32} {lt : Int64} {pk bl : Int32} {w e : Nat → Int32} {t : Nat → Int64} {rm rtot pg rse ln ob il : Int32} {rlt : Int64} {rs : Nat → Int32} {rt : Nat → Int64} {rby : Nat → Int32} (ov hf hfa : Int32) (h : RP k pc po lw se lt pk bl w e t rm rtot pg rse ln ob il rlt rs rt rby) :
    (∃ f : Int32, 0 < f ∧ fX6_faultOf F pc (nI n) po lw se lt (nI TT) 1501 fw pk bl (nI k) = some f ∧ fX10_page F rm rtot hf hfa pg rse ln ob il rlt mt rs rt rby (nI k) (nI n) = some (0, rm, rtot, f, nI k, pg, rse, ln, ob, il, rlt, rs, rt, rby)) ∨
    (fX6_faultOf F pc (nI n) po lw se lt (nI TT) 1501 fw pk bl (nI k) = some 0 ∧ ∃ (pc' po' lw' se' : Int32) (lt' : Int64) (pk' bl' : Int32) (w' e' : Nat → Int32) (t' : Nat → Int64) (rm' rtot' pg' rse' ln' ob' il' : Int32) (rlt' : Int64) (rs' : Nat → Int32) (rt' : Nat → Int64) (rby' : Nat → Int32), 27 ≤ plen (bw fw) k ∧ k + plen (bw fw) k ≤ n ∧ fX6_takePage F pc po lt (nI TT) 1501 fw pk 2400 bl ov 601 w e t (nI k) = some (nI (k + plen (bw fw) k), pc', po', lw', se', lt', pk', bl', ov, w', e', t') ∧ fX10_page F rm rtot hf hfa pg rse ln ob il rlt mt rs rt rby (nI k) (nI n) = some (1, rm', rtot', hf, hfa, pg', rse', ln', ob', il', rlt', rs', rt', rby') ∧ fX10_lengthOf F mt (nI k) = some (nI (plen (bw fw) k)) ∧ RP (k + plen (bw fw) k) pc' po' lw' se' lt' pk' bl' w' e' t' rm' rtot' pg' rse' ln' ob' il' rlt' rs' rt' rby') := by
  obtain ⟨P, N, T, R, sz, hPk, hP0, hN, hT, e1, e2, e3, e4, e5, e6, hps, hopn, hlw, hlw2, hse, hlt, hli, hby⟩ := h
  subst e1 e2 e3 e4 e5 e6 hlw
  have fails : ∀ (c : Int32), (fX10_fails F c (nI k)).bind (fun o => if isb o.1 = true then some (o.1, nI N, nI R, o.2.1, o.2.2, nI P, rse, ln, ob, lw, rlt, rs, rt, rby) else none) = some (0, nI N, nI R, c, nI k, nI P, rse, ln, ob, lw, rlt, rs, rt, rby) := by
    intro c
    unfold fX10_fails
    rw [Option.bind_some, if_pos isb0]
  unfold fX6_faultOf fX10_page
  rw [pk_sub (by omega)]
  by_cases h27 : k + 27 ≤ n
  · rw [i27, if_pos (nI_le (by omega) (by omega)), if_pos (nI_le (by omega) (by omega))]
    obtain ⟨a1, a2⟩ := isMarked_in F (T := TT) (nw := 1501) (k := k) (w := fw) (by omega) (by omega) (by omega) (by omega) (by omega)
    obtain ⟨b1, b2⟩ := isMark_B F (k := k) (bw_lt fw) hm hTT (by omega)
    by_cases hmk : marked (bw fw) k
    · rw [a1 hmk, b1 hmk, Option.bind_some, Option.bind_some, if_neg (show ¬ (1 : Int32) = 0 by decide), if_neg (show ¬ (1 : Int32) = 0 by decide)]
      have c5 : fX8_at F (nI TT) 1501 fw (nI k + 5) = some (nI (bw fw (k + 5))) := by
        rw [i5, nI_add]
        exact at_bw F (by omega) (by omega) (by omega) (by omega)
      have c4 : fX8_at F (nI TT) 1501 fw (nI k + 4) = some (nI (bw fw (k + 4))) := by
        rw [i4, nI_add]
        exact at_bw F (by omega) (by omega) (by omega) (by omega)
      have r5 : fX10_at F mt (nI k + 5) = some (nI (bw fw (k + 5))) := by
        rw [i5, nI_add]
        exact rat_B F hm hTT (by omega)
      have r4 : fX10_at F mt (nI k + 4) = some (nI (bw fw (k + 4))) := by
        rw [i4, nI_add]
        exact rat_B F hm hTT (by omega)
      rw [c5, c4, r5, r4, Option.bind_some, Option.bind_some, Option.bind_some, Option.bind_some]
      have hb4 := bw_lt fw (k + 4)
      have hb5 := bw_lt fw (k + 5)
      have hb54 : fX10_page_b54 F (nI N) (nI R) (nI P) rse ln ob lw rlt rs rt rby (nI k) = some (0, nI N, nI R, 3, nI k, nI P, rse, ln, ob, lw, rlt, rs, rt, rby) := fails 3
      by_cases hv : nI (bw fw (k + 4)) = 0
      · rw [if_pos hv, if_pos hv, i7]
        by_cases hfl : bw fw (k + 5) < 8
        · rw [if_pos (nI_le (by omega) (by omega)), if_pos (nI_le (by omega) (by omega))]
          obtain ⟨a3, a4⟩ := endOf_in F (T := TT) (nw := 1501) (k := k) (lim := n) (w := fw) hTT (by omega) (by omega) (by omega) hn (by omega)
          obtain ⟨b3, b4⟩ := isWhole_B F (by omega) (k := k) (n := n) (bw_lt fw) hm hTT hn h27
          by_cases hwh : whole' (bw fw) k n
          · have hl2 := hwh.2.2
            have hl1 := hwh.2.1
            have hpl : plen (bw fw) k = 27 + bw fw (k + 26) + ssum (bw fw) k (bw fw (k + 26)) := rfl
            rw [a3 hwh, b3 hwh, Option.bind_some, Option.bind_some, if_neg (m1_eq (by omega)), if_neg (show ¬ (1 : Int32) = 0 by decide)]
            have clen := lengthOf_B F (by omega) (bw_lt fw) hm hTT (k := k) (by omega)
            have csum : fX5_sumOf F (nI TT) 1501 fw (nI k) (nI (k + plen (bw fw) k)) = some (crS (bw fw) k (plen (bw fw) k)) := sumOf_bw F (by omega) (by omega) (by omega) (by omega) (by omega)
            have rsum : fX10_sumOf F 6000 mt (nI k) (nI (plen (bw fw) k)) = some (crS (bw fw) k (plen (bw fw) k)) := rsumOf_B F (by omega) (by omega) (by omega) (by omega) (fun j hj => hm _ (by omega))
            have c22 : fX6_numberAt F (nI TT) 1501 fw (nI k + 22) = some (loV (bw fw) (k + 22) 4 0).toInt32 := by
              unfold fX6_numberAt
              have h : fX8_lowFirst F (nI TT) 1501 fw (nI k + 22) 4 = some (loV (bw fw) (k + 22) 4 0) := by
                rw [i22, nI_add]
                exact clow F (m := 4) (by omega) (by omega) (by omega) (by omega) (by omega)
              rw [h, Option.bind_some]
            have r22 : fX10_low F mt (nI k + 22) 4 = some (loV (bw fw) (k + 22) 4 0) := by
              rw [i22, nI_add]
              exact rlow F (m := 4) hm hTT (by omega) (by omega)
            have r18 : fX10_low F mt (nI k + 18) 4 = some (loV (bw fw) (k + 18) 4 0) := by
              rw [i18, nI_add]
              exact rlow F (m := 4) hm hTT (by omega) (by omega)
            have r14 : fX10_low F mt (nI k + 14) 4 = some (loV (bw fw) (k + 14) 4 0) := by
              rw [i14, nI_add]
              exact rlow F (m := 4) hm hTT (by omega) (by omega)
            rw [csum, clen, Option.bind_some, Option.bind_some, c22, r22, Option.bind_some, Option.bind_some, rsum, Option.bind_some]
            by_cases hsum : crS (bw fw) k (plen (bw fw) k) = (loV (bw fw) (k + 22) 4 0).toInt32
            · rw [if_pos hsum, if_pos hsum.symm, r18, Option.bind_some, r14, nm_eq, Option.bind_some, nm_eq]
              obtain ⟨o1, o2⟩ := order_c F hF (TT := TT) (k := k) (P := P) (fl := bw fw (k + 5)) (fw := fw) (lw := lw) (se := se) hTT (by omega) hPk hfl
              obtain ⟨q1, q2⟩ := order_r F (P := P) (fl := bw fw (k + 5)) (k := k) (by omega) hfl (il := lw) (rse := rse) (ln := ln) (num := (loV (bw fw) (k + 18) 4 0).toInt32) (ser := (loV (bw fw) (k + 14) 4 0).toInt32) (by rcases hse with h | h; exact Or.inl h; exact Or.inr h.2) (nI N) (nI R) hf hfa ob rlt mt rs rt rby (nI (plen (bw fw) k))
              have hiff : OKo lw (bw fw (k + 5)) se (loV (bw fw) (k + 18) 4 0).toInt32 (loV (bw fw) (k + 14) 4 0).toInt32 P ↔ OKo lw (bw fw (k + 5)) rse (loV (bw fw) (k + 18) 4 0).toInt32 (loV (bw fw) (k + 14) 4 0).toInt32 P := by
                rcases hse with h | h
                · unfold OKo
                  exact ⟨fun q => ⟨q.1, q.2.1, q.2.2.1, Or.inl h⟩, fun q => ⟨q.1, q.2.1, q.2.2.1, Or.inl h⟩⟩
                · rw [h.1]
              by_cases hok : OKo lw (bw fw (k + 5)) se (loV (bw fw) (k + 18) 4 0).toInt32 (loV (bw fw) (k + 14) 4 0).toInt32 P
              · rw [o1 hok, q1 (hiff.mp hok), Option.bind_some, if_pos (rfl : (0 : Int32) = 0)]
                obtain ⟨v, hv1, hv2, hv3⟩ : ∃ v : Int32, (v = 0 ∨ v = 1) ∧ (∀ (a b : Option Int32), (if nI (bw fw (k + 5)) &&& 1 = 0 then a else b) = if v = 0 then a else b) ∧ (∀ (α : Type) (a b : Option α), (if nI (bw fw (k + 5)) &&& 1 = 1 then a else b) = if v = 0 then b else a) := by
                  rcases fl1 _ hfl with ⟨h1, h2⟩ | ⟨h1, h2⟩
                  · exact ⟨0, Or.inl rfl, fun a b => by rw [if_pos h1, if_pos rfl], fun α a b => by rw [if_neg h2, if_pos rfl]⟩
                  · exact ⟨1, Or.inr rfl, fun a b => by rw [if_neg h1, if_neg (by decide)], fun α a b => by rw [if_pos h2, if_neg (by decide)]⟩
                have hcv : (if nI (bw fw (k + 5)) &&& 1 = 0 then fX6_faultOf_b122 F po lt (nI TT) 1501 fw (nI N) (nI T) (nI k) (nI (k + plen (bw fw) k)) 0 else fX6_faultOf_b122 F po lt (nI TT) 1501 fw (nI N) (nI T) (nI k) (nI (k + plen (bw fw) k)) 1) = fX6_faultOf_b122 F po lt (nI TT) 1501 fw (nI N) (nI T) (nI k) (nI (k + plen (bw fw) k)) v := by
                  rw [hv2]
                  rcases hv1 with h | h
                  · rw [if_pos h, h]
                  · rw [if_neg (by rw [h]; decide), h]
                have hrv : fX10_page_b217 F (nI N) (nI R) hf hfa (nI P) rse ln ob lw rlt mt rs rt rby (nI k) (nI (bw fw (k + 5))) (nI (plen (bw fw) k)) (loV (bw fw) (k + 18) 4 0).toInt32 (loV (bw fw) (k + 14) 4 0).toInt32 = fX10_page_b242 F (nI N) (nI R) hf hfa (nI P) rse ln ob lw rlt mt rs rt rby (nI k) (nI (bw fw (k + 5))) (nI (plen (bw fw) k)) (loV (bw fw) (k + 18) 4 0).toInt32 (loV (bw fw) (k + 14) 4 0).toInt32 po v := by
                  unfold fX10_page_b217 fX10_page_b229
                  rw [hv3]
                  rcases hopn with ⟨h1, h2, h3⟩ | ⟨h1, x, hx, h2, h3⟩
                  · rcases hv1 with h | h
                    · rw [if_pos h, if_pos h2, h, h1]
                    · rw [if_neg (by rw [h]; decide), if_pos h2, h, h1]
                  · have hob : ¬ ob = -1 := by rw [h2]; exact m1_eq (by omega)
                    rcases hv1 with h | h
                    · rw [if_pos h, if_neg hob, h, h1]
                    · rw [if_neg (by rw [h]; decide), if_neg hob, h, h1]
                rw [hcv, hrv]
                unfold fX6_faultOf_b122 fX10_page_b242
                by_cases hvp : v = po
                · rw [if_pos hvp, if_pos hvp]
                  obtain ⟨op, hop, hopn2⟩ : ∃ op : Nat, T = R + op ∧ ((po = 0 ∧ ob = -1 ∧ op = 0) ∨ (po = 1 ∧ ob = nI op)) := by
                    rcases hopn with ⟨h1, h2, h3⟩ | ⟨h1, x, hx, h2, h3⟩
                    · exact ⟨0, by omega, Or.inl ⟨h1, h2, rfl⟩⟩
                    · exact ⟨x, h3, Or.inr ⟨h1, h2⟩⟩
                  have hop3 : (ob = -1 ∧ op = 0) ∨ ob = nI op := by
                    rcases hopn2 with h | h
                    · exact Or.inl h.2
                    · exact Or.inr h.2
                  obtain ⟨E, hE⟩ : ∃ E, E = ecnt (bw fw) k (bw fw (k + 26)) := ⟨_, rfl⟩
                  obtain ⟨body, hbd⟩ : ∃ b, b = ssum (bw fw) k (bw fw (k + 26)) := ⟨_, rfl⟩
                  obtain ⟨tm, htm⟩ : ∃ t, t = loV (bw fw) (k + 6) 8 0 := ⟨_, rfl⟩
                  have hb26 := bw_lt fw (k + 26)
                  have hEs : E ≤ bw fw (k + 26) := by rw [hE]; exact ecnt_le _ _ _
                  obtain ⟨p1, p2, p3⟩ := packets_eq F hF (k := k) (P := P) (N := N) (T := T) (R := R) (op := op) (E := E) (body := body) hTT hm rfl hE hbd (by omega) (lw := lw) (ob := ob) (rse := rse) (ln := ln) (lt := lt) (rlt := rlt) (tm := tm) (rs := rs) (rby := rby) (rt := rt) hf hfa htm hN hT hop hop3 hlt (loV (bw fw) (k + 14) 4 0).toInt32 (loV (bw fw) (k + 18) 4 0).toInt32 (nI (bw fw (k + 5)))
                  have cpe : fX6_packetsEnding F (nI TT) 1501 fw (nI k) = some (nI E) := by
                    rw [hE]
                    exact packetsEnding_bw F (by omega) (by omega) (by omega) (by omega) (by omega)
                  have c6 : fX8_lowFirst F (nI TT) 1501 fw (nI k + 6) 8 = some tm := by
                    rw [i6, nI_add, htm]
                    exact clow F (m := 8) (by omega) (by omega) (by omega) (by omega) (by omega)
                  have c26 : fX8_at F (nI TT) 1501 fw (nI k + 26) = some (nI (bw fw (k + 26))) := by
                    rw [i26, nI_add]
                    exact at_bw F (by omega) (by omega) (by omega) (by omega)
                  obtain ⟨t1, t2⟩ := time_c F (E := E) (by omega) lt tm
                  rw [cpe, Option.bind_some, c6, Option.bind_some]
                  by_cases htok : TOK E lt tm
                  · rw [t1 htok, Option.bind_some, if_pos (rfl : (0 : Int32) = 0), c26, Option.bind_some, nm_eq, i27, nI_add, nI_add, pk_sub (by omega), show k + plen (bw fw) k - (k + 27 + bw fw (k + 26)) = body by omega, hasRoom_nI F hN hT (by omega) (by omega), Option.bind_some]
                    by_cases hroom : N + E ≤ 64 ∧ T + body ≤ 2400
                    · rw [if_pos hroom, if_neg (show ¬ (1 : Int32) = 0 by decide), p3 htok hroom]
                      right
                      obtain ⟨po', lw', lt', pk', bl', w', e', t', rm', rtot', ob', rlt', rs', rt', rby', z1, z2, z3⟩ := take_rel F hF (k := k) (P := P) (N := N) (T := T) (R := R) (op := op) (E := E) (body := body) hTT hm rfl hE hbd (by omega) hfl (po := po) (lw := lw) (se := se) (ob := ob) (rse := rse) (ln := ln) (lt := lt) (rlt := rlt) (tm := tm) (w := w) (e := e) (rs := rs) (rby := rby) (t := t) (rt := rt) (sz := sz) ov hf hfa htm hPk hroom.1 hroom.2 hps hop hopn2 hlt (tok_pos hlt htok) hli hby (loV (bw fw) (k + 18) 4 0).toInt32 hok.2.2.1
                      refine ⟨rfl, _, po', lw', _, lt', pk', bl', w', e', t', rm', rtot', _, _, _, ob', lw', rlt', rs', rt', rby', by omega, by omega, z1, ?_, rfl, z3⟩
                      rw [z2, Option.bind_some, if_pos isb1]
                    · rw [if_neg hroom, if_pos (rfl : (0 : Int32) = 0), p2 htok hroom, Option.bind_some, if_pos isb0]
                      exact Or.inl ⟨8, by decide, rfl, rfl⟩
                  · rw [t2 htok, Option.bind_some, if_neg (show ¬ (1 : Int32) = 0 by decide), p1 htok, Option.bind_some, if_pos isb0]
                    exact Or.inl ⟨7, by decide, rfl, rfl⟩
                · rw [if_neg hvp, if_neg hvp, fails 6]
                  exact Or.inl ⟨6, by decide, rfl, rfl⟩
              · rw [o2 hok, q2 (fun q => hok (hiff.mpr q)), Option.bind_some, if_neg (show ¬ (1 : Int32) = 0 by decide)]
                exact Or.inl ⟨5, by decide, rfl, rfl⟩
            · rw [if_neg hsum, if_neg (fun q => hsum q.symm), fails 4]
              exact Or.inl ⟨4, by decide, rfl, rfl⟩
          · rw [a4 hwh, b4 hwh, Option.bind_some, Option.bind_some, if_pos (rfl : (-1 : Int32) = -1), if_pos (rfl : (0 : Int32) = 0), fails 1]
            exact Or.inl ⟨1, by decide, rfl, rfl⟩
        · rw [if_neg (nI_ge (by omega) (by omega)), if_neg (nI_ge (by omega) (by omega)), hb54]
          exact Or.inl ⟨3, by decide, rfl, rfl⟩
      · rw [if_neg hv, if_neg hv, hb54]
        exact Or.inl ⟨3, by decide, rfl, rfl⟩
    · rw [a2 hmk, b2 hmk, Option.bind_some, Option.bind_some, if_pos (rfl : (0 : Int32) = 0), if_pos (rfl : (0 : Int32) = 0), fails 2]
      exact Or.inl ⟨2, by decide, rfl, rfl⟩
  · rw [i27, if_neg (nI_ge (by omega) (by omega)), if_neg (nI_ge (by omega) (by omega)), fails 1]
    exact Or.inl ⟨1, by decide, rfl, rfl⟩
