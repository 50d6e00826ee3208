-- reading a page: numbers, ends, segments
def loV (B : Nat → Nat) (k : Nat) : Nat → Int64 → Int64
  | 0, v => v
  | i + 1, v => loV B k i (shl64 v 8 ||| (nI (B (k + i))).toInt64)
theorem clow_loop (F : Nat) {T nw k : Nat} {w : Nat → Int32} (hT : T < 2 ^ 30) (hw : T ≤ 4 * nw) (hnw : nw < 2 ^ 30) : ∀ (m n : Nat) (v : Int64), k + m ≤ T → m < n → fX8_lowFirst_b7 F (nI T) nw w (nI k) n (nI m + (-1)) v = some (loV (bw w) k m v) := by
  intro m
  induction m with
  | zero =>
    intro n v h1 h2
    cases n with
    | zero => omega
    | succ n =>
      unfold fX8_lowFirst_b7
      rw [if_pos (by decide)]
      rfl
  | succ m ih =>
    intro n v h1 h2
    cases n with
    | zero => omega
    | succ n =>
      unfold fX8_lowFirst_b7
      dsimp only [nm]
      rw [pk_m1, if_neg (nI_pos (by omega)), nI_add, at_bw F (by omega) (by omega) (by omega) (by omega), Option.bind_some, nb255 (bw_lt _ _)]
      exact ih n _ (by omega) (by omega)
theorem clow (F : Nat) {T nw k m : Nat} {w : Nat → Int32} (hT : T < 2 ^ 30) (hw : T ≤ 4 * nw) (hnw : nw < 2 ^ 30) (hk : k + m ≤ T) (hF : m < F) : fX8_lowFirst F (nI T) nw w (nI k) (nI m) = some (loV (bw w) k m 0) := by
  unfold fX8_lowFirst
  dsimp only [nm]
  rw [Int32.sub_eq_add_neg]
  exact clow_loop F hT hw hnw m F 0 hk hF
theorem rlow_loop (F : Nat) {T k : Nat} {mt : Nat → Int32} {B : Nat → Nat} (hm : ∀ k, k < T → mt k &&& 255 = nI (B k)) (hT : T ≤ 6000) : ∀ (m n : Nat) (v : Int64), k + m ≤ T → m < n → fX10_low_b7 F mt (nI k) n (nI m + (-1)) v = some (loV B k m v) := by
  intro m
  induction m with
  | zero =>
    intro n v h1 h2
    cases n with
    | zero => omega
    | succ n =>
      unfold fX10_low_b7
      rw [if_pos (by decide)]
      rfl
  | succ m ih =>
    intro n v h1 h2
    cases n with
    | zero => omega
    | succ n =>
      unfold fX10_low_b7
      dsimp only [nm]
      rw [pk_m1, if_neg (nI_pos (by omega)), nI_add, rat_B F hm hT (by omega), Option.bind_some]
      exact ih n _ (by omega) (by omega)
theorem rlow (F : Nat) {T k m : Nat} {mt : Nat → Int32} {B : Nat → Nat} (hm : ∀ k, k < T → mt k &&& 255 = nI (B k)) (hT : T ≤ 6000) (hk : k + m ≤ T) (hF : m < F) : fX10_low F mt (nI k) (nI m) = some (loV B k m 0) := by
  unfold fX10_low
  dsimp only [nm]
  rw [Int32.sub_eq_add_neg]
  exact rlow_loop F hm hT m F 0 hk hF
def ecnt (B : Nat → Nat) (k : Nat) : Nat → Nat
  | 0 => 0
  | i + 1 => ecnt B k i + (if B (k + 27 + i) < 255 then 1 else 0)
theorem ecnt_le (B : Nat → Nat) (k : Nat) : ∀ n, ecnt B k n ≤ n := by
  intro n
  induction n with
  | zero => exact Nat.le_refl _
  | succ n ih =>
    rw [ecnt]
    by_cases c : B (k + 27 + n) < 255
    · rw [if_pos c]; omega
    · rw [if_neg c]; omega
theorem ecnt_mono (B : Nat → Nat) (k : Nat) : ∀ {a b : Nat}, a ≤ b → ecnt B k a ≤ ecnt B k b := by
  intro a b h
  induction b with
  | zero => rw [show a = 0 by omega]; exact Nat.le_refl _
  | succ b ih =>
    rcases Nat.lt_or_ge a (b + 1) with q | q
    · exact Nat.le_trans (ih (by omega)) (Nat.le_add_right _ _)
    · rw [show a = b + 1 by omega]; exact Nat.le_refl _
theorem pe_loop (F : Nat) {T nw k s : Nat} {w : Nat → Int32} (hT : T < 2 ^ 30) (hw : T ≤ 4 * nw) (hnw : nw < 2 ^ 30) (hs : k + 27 + s ≤ T) : ∀ (m n i : Nat), i + m = s → m < n → fX6_packetsEnding_b17 F (nI T) nw w (nI k) n (nI i) (nI (ecnt (bw w) k i)) (nI s) = some (nI (ecnt (bw w) k s)) := by
  intro m
  induction m with
  | zero =>
    intro n i h1 h2
    cases n with
    | zero => omega
    | succ n =>
      unfold fX6_packetsEnding_b17
      rw [if_pos (nI_le (by omega) (by omega)), show i = s by omega]
  | succ m ih =>
    intro n i h1 h2
    cases n with
    | zero => omega
    | succ n =>
      have e := ih n (i + 1) (by omega) (by omega)
      have hb := bw_lt w (k + 27 + i)
      unfold fX6_packetsEnding_b17 fX6_packetsEnding_b46
      dsimp only [nm]
      rw [if_neg (nI_ge (by omega) (by omega)), i27, nI_add, nI_add, at_bw F (by omega) (by omega) (by omega) (by omega), Option.bind_some, i255, nI_1, nI_1]
      rw [ecnt] at e
      by_cases c : bw w (k + 27 + i) < 255
      · rw [if_neg (nI_ge c (by omega))]
        rw [if_pos c] at e
        exact e
      · rw [if_pos (nI_le (by omega) (by omega))]
        rw [if_neg c] at e
        exact e
theorem packetsEnding_bw (F : Nat) {T nw k : Nat} {w : Nat → Int32} (hT : T < 2 ^ 30) (hw : T ≤ 4 * nw) (hnw : nw < 2 ^ 30) (hs : k + 27 + bw w (k + 26) ≤ T) (hF : 256 ≤ F) : fX6_packetsEnding F (nI T) nw w (nI k) = some (nI (ecnt (bw w) k (bw w (k + 26)))) := by
  have hb := bw_lt w (k + 26)
  unfold fX6_packetsEnding
  rw [i26, nI_add, at_bw F (by omega) (by omega) (by omega) (by omega), Option.bind_some]
  exact pe_loop F hT hw hnw hs (bw w (k + 26)) F 0 (by omega) (by omega)
theorem addPart_fun (F : Nat) {cap nw : Nat} (hc : cap < 2 ^ 30) (hn : cap / 4 < nw) (hn2 : nw < 2 ^ 30) {S mw a t T : Nat} {q : Nat → Int32} (hS : S < 2 ^ 30) (hw : S ≤ 4 * mw) (hmw : mw < 2 ^ 30) (hat : a + t ≤ S) (hF : t < F) (hT : T + t ≤ cap) (ov : Int32) (w : Nat → Int32) : ∃ w', fX8_addPart F (nI cap) (nI T) ov nw w (nI S) mw q (nI a) (nI t) = some (nI (T + t), ov, w') ∧ (∀ j, j < T → rb w' j = rb w j) ∧ ∀ j, T ≤ j → j < T + t → rb w' j = rb q (a + (j - T)) := by
  have hcr : CR cap ov (nI T) ov (rb w) (some (seg (rb w) 0 T)) := CR_seg (by omega) rfl (fun _ _ => rfl)
  obtain ⟨r, a1, a2⟩ := addPart_CR F hc hn hn2 hS hw hmw hat hF hcr
  rw [app_some, if_pos (by rw [seg_len, seg_len]; exact hT)] at a2
  obtain ⟨x1, x2, x3⟩ := r
  obtain ⟨-, b2, b3, b4⟩ := a2
  rw [List.length_append, seg_len, seg_len] at b2
  have e2 : x1 = nI (T + t) := b2
  have e3 : x2 = ov := b3
  refine ⟨x3, by rw [a1, e2, e3], fun j hj => ?_, fun j h1 h2 => ?_⟩
  · refine b4 j _ ?_
    rw [List.getElem?_append_left (by rw [seg_len]; exact hj), seg_get _ _ _ _ hj, Nat.zero_add]
  · refine b4 j _ ?_
    rw [List.getElem?_append_right (by rw [seg_len]; exact h1), seg_len, seg_get _ _ _ _ (by omega)]
/-- what holds of both readings behind i segments of a page -/
def SJ (B : Nat → Nat) (k N0 T0 E : Nat) (tm : Int64) (rby : Nat → Int32) (i : Nat) (po : Int32) (had N T R : Nat) (sz : Nat → Nat) (e : Nat → Int32) (t : Nat → Int64) (w rs : Nat → Int32) (rt : Nat → Int64) : Prop :=
  T = T0 + ssum B k i ∧ N = N0 + ecnt B k i ∧ psum sz N = R ∧ T = R + had ∧ (po = 0 ∨ po = 1) ∧ (po = 0 → had = 0) ∧ (∀ j, j < N → rs j = nI (sz j) ∧ e j = nI (psum sz (j + 1)) ∧ (t j = if N0 ≤ j ∧ j + 1 = N0 + E then tm else rt j) ∧ -1 ≤ t j ∧ t j ≤ 1099511627775) ∧ ∀ j, j < T → rb w j = rby j &&& 255
theorem nm_eq {α β : Type} (e : α) (k : α → Option β) : nm e k = k e := Eq.trans rfl rfl
theorem seg_run (F : Nat) (hF : 256 ≤ F) {TT k s N0 T0 E : Nat} {fw mt rby : Nat → Int32} {tm : Int64} (hTT : TT ≤ 6000) (hm : ∀ k, k < TT → mt k &&& 255 = nI (bw fw k)) (hs2 : s < 256) (hE : E = ecnt (bw fw) k s) (hwh : k + 27 + s + ssum (bw fw) k s ≤ TT) (hN0 : N0 + E ≤ 64) (hT0 : T0 + ssum (bw fw) k s ≤ 2400) (htm : 0 < E → 0 ≤ tm ∧ tm ≤ 1099511627775) (hrby : ∀ j, T0 ≤ j → j < T0 + ssum (bw fw) k s → rby j &&& 255 = nI (bw fw (k + 27 + s + (j - T0)))) (pc : Int32) (lt : Int64) (ov hf hfa hp : Int32) (hlt : Int64) (p3 p4 p5 : Int32) : ∀ (m i : Nat) (po : Int32) (had N T R : Nat) (sz : Nat → Nat) (e : Nat → Int32) (t : Nat → Int64) (w rs : Nat → Int32) (rt : Nat → Int64), i + m = s → SJ (bw fw) k N0 T0 E tm rby i po had N T R sz e t w rs rt → ∃ (po' : Int32) (had' N' T' R' : Nat) (sz' : Nat → Nat) (e' : Nat → Int32) (t' : Nat → Int64) (w' rs' : Nat → Int32) (rt' : Nat → Int64), SJ (bw fw) k N0 T0 E tm rby s po' had' N' T' R' sz' e' t' w' rs' rt' ∧ (∀ n, fX6_takePage_b61 F pc (nI TT) 1501 fw 2400 601 (nI k) (n + m) (nI i) (nI (k + 27 + s + ssum (bw fw) k i)) (nI s) (nI (E - ecnt (bw fw) k i)) tm po lt (nI N) (nI T) ov w e t = fX6_takePage_b61 F pc (nI TT) 1501 fw 2400 601 (nI k) n (nI s) (nI (k + 27 + s + ssum (bw fw) k s)) (nI s) (nI (E - ecnt (bw fw) k s)) tm po' lt (nI N') (nI T') ov w' e' t') ∧ (∀ n, fX10_packets_b250 F hf hfa hp hlt mt (nI k) p3 p4 p5 (n + m) (nI i) po (nI s) (nI E) tm (nI had) (nI N) (nI R) rs rt rby = fX10_packets_b250 F hf hfa hp hlt mt (nI k) p3 p4 p5 n (nI s) po' (nI s) (nI E) tm (nI had') (nI N') (nI R') rs' rt' rby) := by
  intro m
  induction m with
  | zero =>
    intro i po had N T R sz e t w rs rt h1 h
    have hi : i = s := by omega
    subst hi
    exact ⟨po, had, N, T, R, sz, e, t, w, rs, rt, h, fun n => rfl, fun n => rfl⟩
  | succ m ih =>
    intro i po had N T R sz e t w rs rt h1 h
    obtain ⟨c1, c2, c3, c4, c5, c6, c7, c8⟩ := h
    have hb := bw_lt fw (k + 27 + i)
    have hsm : ssum (bw fw) k (i + 1) = ssum (bw fw) k i + bw fw (k + 27 + i) := rfl
    have hsl : ssum (bw fw) k (i + 1) ≤ ssum (bw fw) k s := ssum_mono _ _ (by omega)
    have hel : ecnt (bw fw) k (i + 1) ≤ ecnt (bw fw) k s := ecnt_mono _ _ (by omega)
    obtain ⟨w1, a1, a2, a3⟩ := addPart_fun F (cap := 2400) (nw := 601) (by omega) (by omega) (by omega) (S := TT) (mw := 1501) (a := k + 27 + s + ssum (bw fw) k i) (t := bw fw (k + 27 + i)) (T := T) (q := fw) (by omega) (by omega) (by omega) (by omega) (by omega) (by omega) ov w
    have hw1 : ∀ j, j < T + bw fw (k + 27 + i) → rb w1 j = rby j &&& 255 := by
      intro j hj
      rcases Nat.lt_or_ge j T with q | q
      · rw [a2 j q, c8 j q]
      · rw [a3 j q hj, hrby j (by omega) (by omega), rb_bw]
        congr 2
        omega
    have eat : fX8_at F (nI TT) 1501 fw (nI (k + 27 + i)) = some (nI (bw fw (k + 27 + i))) := at_bw F (by omega) (by omega) (by omega) (by omega)
    have ert : fX10_at F mt (nI (k + 27 + i)) = some (nI (bw fw (k + 27 + i))) := rat_B F hm hTT (by omega)
    by_cases c : bw fw (k + 27 + i) = 255
    · have hec : ecnt (bw fw) k (i + 1) = ecnt (bw fw) k i := by rw [ecnt, if_neg (by omega)]; rfl
      have hJ : SJ (bw fw) k N0 T0 E tm rby (i + 1) 1 (had + bw fw (k + 27 + i)) N (T + bw fw (k + 27 + i)) R sz e t w1 rs rt :=
        ⟨by omega, by omega, c3, by omega, Or.inr rfl, fun h => absurd h (by decide), c7, hw1⟩
      obtain ⟨po', had', N', T', R', sz', e', t', w', rs', rt', d1, d2, d3⟩ := ih (i + 1) 1 _ N _ R sz e t w1 rs rt (by omega) hJ
      refine ⟨po', had', N', T', R', sz', e', t', w', rs', rt', d1, fun n => ?_, fun n => ?_⟩
      · rw [← d2 n, hec, hsm, show n + (m + 1) = (n + m) + 1 by omega]
        rw [fX6_takePage_b61]
        rw [if_neg (nI_ge (by omega) (by omega)), i27, nI_add, nI_add, eat, Option.bind_some]
        have a1' : fX8_addPart F 2400 (nI T) ov 601 w (nI TT) 1501 fw (nI (k + 27 + s + ssum (bw fw) k i)) (nI (bw fw (k + 27 + i))) = _ := a1
        rw [a1', Option.bind_some]
        unfold fX6_takePage_b122 fX6_takePage_b154
        simp only [nm_eq]
        rw [nI_add, i255, if_pos (by rw [c]), if_pos isb1, if_neg (by decide), nI_1, Nat.add_assoc (k + 27 + s)]
      · rw [← d3 n, show n + (m + 1) = (n + m) + 1 by omega]
        rw [fX10_packets_b250]
        rw [if_neg (nI_ge (by omega) (by omega)), i27, nI_add, nI_add, ert, Option.bind_some]
        unfold fX10_packets_b290 fX10_packets_b347
        simp only [nm_eq]
        rw [nI_add, i255, if_pos (by rw [c]), if_neg (by decide), nI_1]
    · have hec : ecnt (bw fw) k (i + 1) = ecnt (bw fw) k i + 1 := by rw [ecnt, if_pos (by omega)]
      have hNb : N < 64 := by omega
      have hzc : ∀ M, M ≤ N → psum (fun j => if j = N then had + bw fw (k + 27 + i) else sz j) M = psum sz M := fun M hM => psum_congr (fun j hj => by rw [if_neg (by omega)])
      have hz2 : psum (fun j => if j = N then had + bw fw (k + 27 + i) else sz j) (N + 1) = T + bw fw (k + 27 + i) := by rw [psum, hzc N (Nat.le_refl _), if_pos rfl, c3]; omega
      have hJ : SJ (bw fw) k N0 T0 E tm rby (i + 1) 0 0 (N + 1) (T + bw fw (k + 27 + i)) (T + bw fw (k + 27 + i)) (fun j => if j = N then had + bw fw (k + 27 + i) else sz j) (upd e N (nI (T + bw fw (k + 27 + i)))) (vp_updL t N (if E - ecnt (bw fw) k i - 1 = 0 then tm else -1)) w1 (upd rs N (nI (had + bw fw (k + 27 + i)))) (vp_updL rt N (-1)) := by
        refine ⟨by omega, by omega, hz2, by omega, Or.inl rfl, fun _ => rfl, fun j hj => ?_, hw1⟩
        rw [upd_app, upd_app, updL_app, updL_app]
        dsimp only
        by_cases cj : j = N
        · rw [if_pos cj, if_pos cj, if_pos cj, if_pos cj, if_pos cj, cj, hz2]
          refine ⟨rfl, rfl, ?_, ?_⟩
          · by_cases q : E - ecnt (bw fw) k i - 1 = 0
            · rw [if_pos q, if_pos (by omega)]
            · rw [if_neg q, if_neg (by omega)]
          · by_cases q : E - ecnt (bw fw) k i - 1 = 0
            · rw [if_pos q]
              exact ⟨Int64.le_trans (by decide) (htm (by omega)).1, (htm (by omega)).2⟩
            · rw [if_neg q]; decide
        · rw [if_neg cj, if_neg cj, if_neg cj, if_neg cj, if_neg cj, hzc (j + 1) (by omega)]
          exact c7 j (by omega)
      obtain ⟨po', had', N', T', R', sz', e', t', w', rs', rt', d1, d2, d3⟩ := ih (i + 1) 0 0 (N + 1) _ _ _ _ _ w1 _ _ (by omega) hJ
      refine ⟨po', had', N', T', R', sz', e', t', w', rs', rt', d1, fun n => ?_, fun n => ?_⟩
      · rw [← d2 n, hec, hsm, show n + (m + 1) = (n + m) + 1 by omega]
        rw [fX6_takePage_b61]
        rw [if_neg (nI_ge (by omega) (by omega)), i27, nI_add, nI_add, eat, Option.bind_some]
        have a1' : fX8_addPart F 2400 (nI T) ov 601 w (nI TT) 1501 fw (nI (k + 27 + s + ssum (bw fw) k i)) (nI (bw fw (k + 27 + i))) = _ := a1
        rw [a1', Option.bind_some]
        unfold fX6_takePage_b122 fX6_takePage_b151 fX6_takePage_b154
        simp only [nm_eq]
        rw [nI_add, i255, if_neg (show ¬ nI (bw fw (k + 27 + i)) = nI 255 from by rw [nI_eq (by omega) (by omega)]; exact c), if_pos isb0, if_true, nI_1, Nat.add_assoc (k + 27 + s)]
        rw [show nI (E - ecnt (bw fw) k i) + (-1) = nI (E - (ecnt (bw fw) k i + 1)) from by rw [show E - ecnt (bw fw) k i = (E - (ecnt (bw fw) k i + 1)) + 1 by omega, pk_m1]]
        rw [endPacket_in F hNb, endPacket_in F hNb, Option.bind_some, Option.bind_some]
        dsimp only
        by_cases q : E - ecnt (bw fw) k i - 1 = 0
        · rw [if_pos q, if_pos (show nI (E - (ecnt (bw fw) k i + 1)) = 0 from by rw [show E - (ecnt (bw fw) k i + 1) = 0 by omega, nI_0])]
        · rw [if_neg q, if_neg (nI_ne0 (by omega) (by omega))]
      · rw [← d3 n, show n + (m + 1) = (n + m) + 1 by omega]
        rw [fX10_packets_b250]
        rw [if_neg (nI_ge (by omega) (by omega)), i27, nI_add, nI_add, ert, Option.bind_some]
        unfold fX10_packets_b290 fX10_packets_b347
        simp only [nm_eq]
        rw [nI_add, i255, if_neg (show ¬ nI (bw fw (k + 27 + i)) = nI 255 from by rw [nI_eq (by omega) (by omega)]; exact c), if_true, if_pos (gin_nI hNb (by omega)), if_pos (gin_nI hNb (by omega)), nI_clamp (by omega), nI_1, nI_1, nI_add, nI_0, show R + (had + bw fw (k + 27 + i)) = T + bw fw (k + 27 + i) by omega]
