-- feed and packet
theorem seg_len (f : Nat → Int32) (a n : Nat) : (seg f a n).length = n := by
  induction n generalizing a with
  | zero => rfl
  | succ n ih => rw [seg, List.length_cons, ih]
theorem seg_get (f : Nat → Int32) : ∀ (n a k : Nat), k < n → (seg f a n)[k]? = some (f (a + k)) := by
  intro n
  induction n with
  | zero => intro a k h; omega
  | succ n ih =>
    intro a k h
    rw [seg]
    cases k with
    | zero => rfl
    | succ k => rw [List.getElem?_cons_succ, ih (a + 1) k (by omega), show a + 1 + k = a + (k + 1) by omega]
theorem seg_app (f : Nat → Int32) : ∀ (m a n : Nat), seg f a (m + n) = seg f a m ++ seg f (a + m) n := by
  intro m
  induction m with
  | zero => intro a n; rw [Nat.zero_add]; rfl
  | succ m ih => intro a n; rw [show m + 1 + n = (m + n) + 1 by omega, seg, seg, ih (a + 1) n, show a + 1 + m = a + (m + 1) by omega]; rfl
theorem seg_congr {f g : Nat → Int32} : ∀ (n a : Nat), (∀ k, a ≤ k → k < a + n → f k = g k) → seg f a n = seg g a n := by
  intro n
  induction n with
  | zero => intro a h; rfl
  | succ n ih => intro a h; rw [seg, seg, h a (by omega) (by omega), ih (a + 1) (fun k h1 h2 => h k (by omega) (by omega))]
theorem CR_seg {cap T : Nat} (hT : T ≤ cap) {len o : Int32} {rd f : Nat → Int32} (hl : len = nI T) (h : ∀ k, k < T → rd k = f k) : CR cap o len o rd (some (seg f 0 T)) := by
  refine ⟨by rw [seg_len]; exact hT, by rw [seg_len]; exact hl, rfl, fun k x hx => ?_⟩
  rcases Nat.lt_or_ge k T with q | q
  · rw [seg_get f T 0 k q, Nat.zero_add] at hx
    rw [h k q]; exact Option.some.inj hx
  · rw [List.getElem?_eq_none (by rw [seg_len]; exact q)] at hx; cases hx
theorem RBy_CR {len ml : Int32} {w mt : Nat → Int32} (h : RBy len w ml mt) : ∃ L : List Int32, L.length ≤ 6000 ∧ len = nI L.length ∧ ml = nI L.length ∧ (∀ o, CR 6000 o len o (rb w) (some L)) ∧ CR 6000 0 ml 0 (fun k => mt k &&& 255) (some L) := by
  obtain ⟨T, hT, h1, h2, h3⟩ := h
  refine ⟨seg (fun k => mt k &&& 255) 0 T, by rw [seg_len]; exact hT, by rw [seg_len]; exact h1, by rw [seg_len]; exact h2, fun o => CR_seg hT h1 h3, CR_seg hT h2 (fun _ _ => rfl)⟩
theorem CR_RBy {len ml o o' ov mo : Int32} {w mt : Nat → Int32} {L : List Int32} (h1 : CR 6000 o len ov (rb w) (some L)) (h2 : CR 6000 o' ml mo (fun k => mt k &&& 255) (some L)) : RBy len w ml mt := by
  refine ⟨L.length, h1.1, h1.2.1, h2.2.1, fun k hk => ?_⟩
  have e : L[k]? = some L[k] := List.getElem?_eq_getElem hk
  rw [h1.2.2.2 k _ e]; exact (h2.2.2.2 k _ e).symm
theorem four_loop (F : Nat) (p : Int32) : ∀ (m n : Nat) (ml : Int32) (mt : Nat → Int32) (L : List Int32), m ≤ 4 → m < n → CR 6000 0 ml 0 (fun k => mt k &&& 255) (some L) → L.length + m ≤ 6000 → ∃ r, fX10_four_b3 F p n (nI (8 * m) + (-8)) ml mt = some r ∧ CR 6000 0 r.1 0 (fun k => r.2 k &&& 255) (some (L ++ hiL p.toInt64 m)) := by
  intro m
  induction m with
  | zero =>
    intro n ml mt L h4 hmn h hL
    cases n with
    | zero => omega
    | succ n =>
      unfold fX10_four_b3
      rw [if_pos (by decide), hiL, List.append_nil]
      exact ⟨_, rfl, h⟩
  | succ m ih =>
    intro n ml mt L h4 hmn h hL
    cases n with
    | zero => omega
    | succ n =>
      obtain ⟨a1, a2, a3, a4⟩ := h
      unfold fX10_four_b3 nm
      have e8 : nI (8 * (m + 1)) + (-8) = nI (8 * m) := by
        rw [show 8 * (m + 1) = 8 * m + 8 by omega, ← nI_add, Int32.add_assoc, show nI 8 + (-8) = 0 by decide, Int32.add_zero]
      rw [e8, a2, if_neg (nI_pos (by omega)), if_pos (gin_nI (by omega) (by omega)), nI_clamp (by omega)]
      dsimp only
      rw [nI_1]
      have hcr : CR 6000 0 (nI (L.length + 1)) 0 (fun k => upd mt L.length ((p >>> (nI (8 * m) &&& 31)).toInt8.toInt32).toInt8.toInt32 k &&& 255) (some (L ++ [hb p.toInt64 m])) := by
        refine ⟨by rw [List.length_append]; show L.length + 1 ≤ 6000; omega, by rw [List.length_append]; rfl, rfl, ?_⟩
        intro k x hx
        show upd mt L.length _ k &&& 255 = x
        rw [upd_app]
        by_cases hk : k = L.length
        · rw [if_pos hk, bp_2, hb_i32 _ (by omega)]
          rw [hk, List.getElem?_append_right (Nat.le_refl _), Nat.sub_self] at hx
          exact Option.some.inj hx
        · rw [if_neg hk]
          have : k < L.length := by
            rcases Nat.lt_or_ge k L.length with z | z
            · exact z
            · rw [List.getElem?_eq_none (by rw [List.length_append]; show L.length + 1 ≤ k; omega)] at hx; cases hx
          rw [List.getElem?_append_left this] at hx
          exact a4 k x hx
      obtain ⟨r, h1, h2⟩ := ih n (nI (L.length + 1)) (upd mt L.length ((p >>> (nI (8 * m) &&& 31)).toInt8.toInt32).toInt8.toInt32) (L ++ [hb p.toInt64 m]) (by omega) (by omega) hcr (by rw [List.length_append]; show L.length + 1 + m ≤ 6000; omega)
      refine ⟨r, h1, ?_⟩
      rw [List.append_assoc] at h2
      exact h2
theorem four_CR (F : Nat) (hF : 4 < F) (p : Int32) {ml : Int32} {mt : Nat → Int32} {L : List Int32} (h : CR 6000 0 ml 0 (fun k => mt k &&& 255) (some L)) (hL : L.length + 4 ≤ 6000) : ∃ r, fX10_four F ml mt p = some r ∧ CR 6000 0 r.1 0 (fun k => r.2 k &&& 255) (some (L ++ hiL p.toInt64 4)) := by
  unfold fX10_four
  rw [show (24 : Int32) = nI (8 * 4) + (-8) by decide]
  exact four_loop F p 4 F ml mt L (Nat.le_refl _) hF h hL
theorem cfour_CR (F : Nat) (hF : 8 < F) (p : Int32) {o len ov : Int32} {w : Nat → Int32} {L : List Int32} (h : CR 6000 o len ov (rb w) (some L)) (hL : L.length + 4 ≤ 6000) : ∃ r, fX8_addHighFirst F 6000 len ov 1501 w p.toInt64 4 = some r ∧ CR 6000 o r.1 r.2.1 (rb r.2.2) (some (L ++ hiL p.toInt64 4)) := by
  obtain ⟨r, h1, h2⟩ := addHigh_CR F (cap := 6000) (nw := 1501) (by omega) (by omega) (by omega) p.toInt64 4 (by omega) hF h
  rw [app_some, if_pos (by exact hL)] at h2
  exact ⟨r, h1, h2⟩
theorem ok_feed : OP_feed Fu := by
  intro a_length a_overfull c_aw M_taped c_Mtape o_length c_ow l_packets lb_length c_lbw c_le c_lt h_fault h_faultPlace h_pagesRead h_clustersRead h_blocksRead M_outMany c_Mout M_many M_total c_Msize c_Mtime c_Mbytes M_told M_toldAt M_pageCount M_clusterCount M_blockCount c_MheadRow c_MinfoRow c_MtracksRow c_McodecRow q0 q1 q2 q3 q4 hrel
  obtain ⟨hA, hO, hL, hf, hC⟩ := id hrel
  obtain ⟨L, hl, e1, e2, c1, m1⟩ := RBy_CR hA
  unfold fX9_feed fX10_feed
  have c1 := c1 a_overfull
  by_cases hroom : L.length + 20 ≤ 6000
  · rw [if_pos (show a_length ≤ 5980 from by rw [e1, i5980, nI_leI (by omega) (by omega)]; omega), if_pos (show M_taped + 20 ≤ 6000 from by rw [e2, i20, i6000, nI_add, nI_leI (by omega) (by omega)]; exact hroom)]
    have hFu : 8 < Fu := by unfold Fu; omega
    have hl4 : ∀ (p : Int32), (hiL p.toInt64 4).length = 4 := fun p => rfl
    obtain ⟨r1, a1, c2⟩ := cfour_CR Fu hFu q0 c1 (by omega)
    obtain ⟨s1, b1, m2⟩ := four_CR Fu (by omega) q0 m1 (by omega)
    obtain ⟨r2, a2, c3⟩ := cfour_CR Fu hFu q1 c2 (by rw [List.length_append, hl4]; omega)
    obtain ⟨s2, b2, m3⟩ := four_CR Fu (by omega) q1 m2 (by rw [List.length_append, hl4]; omega)
    obtain ⟨r3, a3, c4⟩ := cfour_CR Fu hFu q2 c3 (by simp only [List.length_append, hl4]; omega)
    obtain ⟨s3, b3, m4⟩ := four_CR Fu (by omega) q2 m3 (by simp only [List.length_append, hl4]; omega)
    obtain ⟨r4, a4, c5⟩ := cfour_CR Fu hFu q3 c4 (by simp only [List.length_append, hl4]; omega)
    obtain ⟨s4, b4, m5⟩ := four_CR Fu (by omega) q3 m4 (by simp only [List.length_append, hl4]; omega)
    obtain ⟨r5, a5, c6⟩ := cfour_CR Fu hFu q4 c5 (by simp only [List.length_append, hl4]; omega)
    obtain ⟨s5, b5, m6⟩ := four_CR Fu (by omega) q4 m5 (by simp only [List.length_append, hl4]; omega)
    simp only [a1, Option.bind_some, a2, a3, a4, a5, b1, b2, b3, b4, b5]
    refine ⟨_, _, rfl, rfl, ?_, CR_RBy c6 m6, hO, hL, hf, hC⟩
    show r5.1 = s5.1
    rw [c6.2.1, m6.2.1]
  · rw [if_neg (show ¬ a_length ≤ 5980 from by rw [e1, i5980, nI_leI (by omega) (by omega)]; omega), if_neg (show ¬ M_taped + 20 ≤ 6000 from by rw [e2, i20, i6000, nI_add, nI_leI (by omega) (by omega)]; exact hroom)]
    exact ⟨_, _, rfl, rfl, rfl, hrel⟩
theorem psum_congr {a b : Nat → Nat} : ∀ {N : Nat}, (∀ i, i < N → a i = b i) → psum a N = psum b N := by
  intro N
  induction N with
  | zero => intro _; rfl
  | succ N ih => intro h; rw [psum, psum, ih (fun i hi => h i (by omega)), h N (by omega)]
theorem pack_loop (F : Nat) {N T t : Nat} (hN : N < 64) (ht : T + t ≤ 2400) (mtape ms : Nat → Int32) (mtime : Nat → Int64) (q : Int64) : ∀ (m n i : Nat) (f : Nat → Int32), i + m = t → m < n → ∃ g, fX10_packet_b62 F (nI N) (nI T) mtape ms mtime (nI t) q n (nI i) f = some (nI (N + 1), 0, nI (N + 1), nI (T + t), upd ms N (nI t), vp_updL mtime N q, g) ∧ ∀ k, g k = if T + i ≤ k ∧ k < T + t then (mtape (k - T)).toInt8.toInt32 else f k := by
  intro m
  induction m with
  | zero =>
    intro n i f h1 h2
    cases n with
    | zero => omega
    | succ n =>
      unfold fX10_packet_b62
      dsimp only [nm]
      rw [if_pos (nI_le (by omega) (by omega)), if_pos (gin_nI (by omega) (by omega)), if_pos (gin_nI (by omega) (by omega)), nI_clamp (by omega), nI_1, nI_add]
      exact ⟨f, rfl, fun k => by rw [if_neg (by omega)]⟩
  | succ m ih =>
    intro n i f h1 h2
    cases n with
    | zero => omega
    | succ n =>
      unfold fX10_packet_b62
      dsimp only [nm]
      rw [if_neg (nI_ge (by omega) (by omega)), if_pos (gin_nI (by omega) (by omega)), nI_add, if_pos (gin_nI (by omega) (by omega)), nI_clamp (by omega), nI_clamp (by omega)]
      rw [nI_1]
      obtain ⟨g, h3, h4⟩ := ih n (i + 1) (upd f (T + i) (mtape i).toInt8.toInt32) (by omega) (by omega)
      refine ⟨g, h3, fun k => ?_⟩
      rw [h4 k, upd_app]
      by_cases c1 : T + (i + 1) ≤ k ∧ k < T + t
      · rw [if_pos c1, if_pos (by omega)]
      · rw [if_neg c1]
        by_cases c2 : k = T + i
        · rw [if_pos c2, if_pos (by omega), c2, show T + i - T = i by omega]
        · rw [if_neg c2, if_neg (by omega)]
theorem endPacket_in (F : Nat) {N : Nat} (hN : N < 64) (bl : Int32) (e : Nat → Int32) (t : Nat → Int64) (q : Int64) : fX4_endPacket F (nI N) bl e t q = some (nI (N + 1), upd e N bl, vp_updL t N q) := by
  unfold fX4_endPacket
  dsimp only [nm]
  rw [i64, if_pos (nI_lt hN (by omega)), if_pos (gin_nI hN (by omega)), if_pos (gin_nI hN (by omega)), nI_clamp (by omega), nI_1]
theorem hasRoom_nI (F : Nat) {N T p n : Nat} (hN : N ≤ 64) (hT : T ≤ 2400) (hp : p < 2 ^ 30) (hn : n < 2 ^ 30) : fX4_hasRoom F (nI N) (nI T) (nI p) (nI n) = some (if N + p ≤ 64 ∧ T + n ≤ 2400 then 1 else 0) := by
  unfold fX4_hasRoom fX4_hasRoom_b31
  rw [i64, i2400, pk_sub hN, pk_sub hT]
  simp only [nI_ltI (show 64 - N < 2 ^ 31 by omega) (show p < 2 ^ 31 by omega), nI_ltI (show 2400 - T < 2 ^ 31 by omega) (show n < 2 ^ 31 by omega), isb0, isb1, if_true]
  by_cases h1 : N + p ≤ 64
  · by_cases h2 : T + n ≤ 2400
    · rw [if_neg (by omega), if_neg (by omega), if_pos ⟨h1, h2⟩]
    · rw [if_neg (by omega), if_pos (by omega), if_neg (fun h => h2 h.2)]
  · rw [if_pos (by omega), if_neg (fun h => h1 h.1)]
theorem RLi_add {N T : Nat} {sz : Nat → Nat} {e : Nat → Int32} {t mt : Nat → Int64} {w w' ms mb mb' : Nat → Int32} {q : Int64} {n : Nat} (hN : N < 64) (hT : T + n ≤ 2400) (hps : psum sz N = T) (hli : ∀ i, i < N → ms i = nI (sz i) ∧ e i = nI (psum sz (i + 1)) ∧ t i = mt i ∧ -1 ≤ t i ∧ t i ≤ 1099511627775) (hq : -1 ≤ q) (hq2 : q ≤ 1099511627775) (hby : ∀ k, k < T + n → rb w' k = mb' k &&& 255) : RLi (nI (N + 1)) (nI (T + n)) w' (upd e N (nI (T + n))) (vp_updL t N q) (nI (N + 1)) (nI (T + n)) (upd ms N (nI n)) (vp_updL mt N q) mb' := by
  have hz : ∀ M, M ≤ N → psum (fun i => if i = N then n else sz i) M = psum sz M := fun M hM => psum_congr (fun i hi => by rw [if_neg (by omega)])
  have hz2 : psum (fun i => if i = N then n else sz i) (N + 1) = T + n := by rw [psum, hz N (Nat.le_refl _), if_pos rfl, hps]
  refine ⟨N + 1, T + n, fun i => if i = N then n else sz i, by omega, hT, rfl, rfl, rfl, rfl, hz2, fun i hi => ?_, hby⟩
  rw [upd_app, upd_app, updL_app, updL_app]
  dsimp only
  by_cases c : i = N
  · rw [if_pos c, if_pos c, if_pos c, if_pos c, if_pos c, c, hz2]
    exact ⟨rfl, rfl, rfl, hq, hq2⟩
  · rw [if_neg c, if_neg c, if_neg c, if_neg c, if_neg c, hz (i + 1) (by omega)]
    exact hli i (by omega)
theorem RBy_0 (w mt : Nat → Int32) : RBy 0 w 0 mt := ⟨0, by omega, rfl, rfl, fun k hk => by omega⟩
theorem ok_packet : OP_packet Fu := by
  intro a_length a_overfull c_aw l_packets lb_length lb_overfull c_lbw c_le c_lt M_taped M_many M_total c_Mtape c_Msize c_Mtime c_Mbytes o_length c_ow h_fault h_faultPlace h_pagesRead h_clustersRead h_blocksRead M_outMany c_Mout M_told M_toldAt M_pageCount M_clusterCount M_blockCount c_MheadRow c_MinfoRow c_MtracksRow c_McodecRow q0 q1 hrel
  obtain ⟨⟨TA, hTA, e1, e2, hA⟩, hO, ⟨N, T, sz, hN, hT, e5, e6, e7, e8, hps, hli, hby⟩, hf, hC⟩ := id hrel
  unfold fX9_packet fX10_packet fX9_isOnTape fX9_isOnTape_b20
  by_cases h0 : q0 < 0
  · rw [if_pos h0, if_pos h0, if_pos isb0, Option.bind_some, if_pos rfl]
    exact ⟨_, _, rfl, rfl, rfl, hrel⟩
  rw [if_neg h0, if_neg h0]
  have e12 : M_taped = a_length := by rw [e1, e2]
  rw [e12]
  by_cases h1 : a_length < q0
  · rw [if_pos h1, if_pos h1, if_pos isb0, Option.bind_some, if_pos rfl, ← e12]
    exact ⟨_, _, rfl, rfl, rfl, by rw [e12] at hrel ⊢; exact hrel⟩
  rw [if_neg h1, if_neg h1, if_pos isb1, Option.bind_some, if_neg (by decide)]
  by_cases h2 : q1 < -1
  · rw [if_pos h2, if_pos h2]
    exact ⟨_, _, rfl, rfl, rfl, by rw [e12] at hrel; exact hrel⟩
  rw [if_neg h2, if_neg h2]
  by_cases h3 : q1 ≤ 1099511627775
  · rw [if_pos h3, if_pos h3]
    obtain ⟨n, hn, rfl⟩ := nI_of h0
    have hnT : n ≤ TA := by
      rw [e1, nI_ltI (by omega) hn] at h1; omega
    have hr0 : fX4_hasRoom Fu (nI N) (nI T) 1 (nI n) = _ := hasRoom_nI Fu hN hT (p := 1) (by omega) (by omega)
    rw [e5, e7, e6, e8, hr0, Option.bind_some, nI_add, i64, i2400]
    by_cases hr : N + 1 ≤ 64 ∧ T + n ≤ 2400
    · rw [if_pos hr, if_neg (show ¬ (1 : Int32) = 0 by decide), if_neg (show ¬ nI N = nI 64 by rw [nI_eq (by omega) (by omega)]; omega), if_pos (nI_le hr.2 (by omega))]
      obtain ⟨g, b1, b2⟩ := pack_loop Fu (N := N) (T := T) (t := n) (by omega) hr.2 c_Mtape c_Msize c_Mtime q1 n Fu 0 c_Mbytes (by omega) (by unfold Fu; omega)
      have hcr : CR 2400 lb_overfull (nI T) lb_overfull (rb c_lbw) (some (seg (rb c_lbw) 0 T)) := CR_seg hT rfl (fun _ _ => rfl)
      obtain ⟨r, a1, a2⟩ := addPart_CR Fu (cap := 2400) (nw := 601) (by omega) (by omega) (by omega) (S := TA) (mw := 1501) (a := 0) (t := n) (q := c_aw) (by omega) (by omega) (by omega) (by omega) (by unfold Fu; omega) hcr
      rw [app_some, if_pos (by rw [seg_len, seg_len]; exact hr.2)] at a2
      have hlen : r.1 = nI (T + n) := by rw [a2.2.1, List.length_append, seg_len, seg_len]
      rw [e1]
      have a1' : fX8_addPart Fu (nI 2400) (nI T) lb_overfull 601 c_lbw (nI TA) 1501 c_aw 0 (nI n) = some r := a1
      have b1' : fX10_packet_b62 Fu (nI N) (nI T) c_Mtape c_Msize c_Mtime (nI n) q1 Fu 0 c_Mbytes = _ := b1
      rw [a1', b1', Option.bind_some, endPacket_in Fu (by omega), Option.bind_some, hlen]
      unfold fX9_packet_b67 fX8_empty fX9_packet_b90
      rw [Option.bind_some, if_neg (by decide)]
      refine ⟨_, _, rfl, rfl, rfl, RBy_0 _ _, hO, RLi_add (by omega) hr.2 hps hli (by rw [← Int64.not_lt]; exact h2) h3 (w := c_lbw) (mb := c_Mbytes) ?_, hf, hC⟩
      intro k hk
      show rb r.2.2 k = g k &&& 255
      rw [b2 k]
      rcases Nat.lt_or_ge k T with q | q
      · rw [if_neg (by omega), ← hby k q]
        refine a2.2.2.2 k _ ?_
        rw [List.getElem?_append_left (by rw [seg_len]; exact q), seg_get _ _ _ _ q, Nat.zero_add]
      · rw [if_pos (by omega), bp_b0, ← hA (k - T) (by omega)]
        refine a2.2.2.2 k _ ?_
        rw [List.getElem?_append_right (by rw [seg_len]; exact q), seg_len, seg_get _ _ _ _ (by omega), Nat.zero_add]
    · rw [if_neg hr, if_pos (show (0 : Int32) = 0 from rfl)]
      unfold fX9_packet_b67 fX8_empty fX9_packet_b90
      rw [Option.bind_some, if_pos rfl]
      have em : (if nI N = nI 64 then (some (((-1 : Int32)), (0 : Int32), nI N, nI T, c_Msize, c_Mtime, c_Mbytes)) else (if nI (T + n) ≤ nI 2400 then (fX10_packet_b62 Fu (nI N) (nI T) c_Mtape c_Msize c_Mtime (nI n) q1 Fu 0 c_Mbytes) else (some ((-1), 0, nI N, nI T, c_Msize, c_Mtime, c_Mbytes)))) = some ((-1), 0, nI N, nI T, c_Msize, c_Mtime, c_Mbytes) := by
        by_cases c1 : N = 64
        · rw [if_pos (by rw [c1])]
        · rw [if_neg (by rw [nI_eq (by omega) (by omega)]; exact c1), if_neg (nI_ge (by omega) (by omega))]
      rw [em]
      refine ⟨_, _, rfl, rfl, rfl, RBy_0 _ _, hO, ?_, hf, hC⟩
      exact ⟨N, T, sz, hN, hT, rfl, rfl, rfl, rfl, hps, hli, hby⟩
  · rw [if_neg h3, if_neg h3]
    exact ⟨_, _, rfl, rfl, rfl, by rw [e12] at hrel; exact hrel⟩
