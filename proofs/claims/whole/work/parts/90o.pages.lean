-- writing pages: segment by segment on both sides
def nsg (sz : Nat → Nat) (i : Nat) : Nat := sz i / 255 + 1
theorem nsg_le (sz : Nat → Nat) : ∀ N, psum (nsg sz) N ≤ psum sz N + N := by
  intro N
  induction N with
  | zero => exact Nat.le_refl _
  | succ N ih =>
    have h : nsg sz N = sz N / 255 + 1 := rfl
    have h1 : psum (nsg sz) (N + 1) = psum (nsg sz) N + nsg sz N := rfl
    have h2 : psum sz (N + 1) = psum sz N + sz N := rfl
    omega
theorem addSeg (F : Nat) {s : Nat} (hs : s < 255) (h : Nat → Int32) (v : Int32) : fX7_addSegment F (nI s) h v = some (nI (s + 1), upd h s v) := by
  unfold fX7_addSegment
  rw [i255, if_neg (nI_ge (by omega) (by omega)), if_pos (gin_nI (by omega) (by omega)), nm_eq, nm_eq, nI_clamp (by omega), nI_1]
theorem pg_sim (F : Nat) (hF : 6000 < F) {N T a b : Nat} {sz : Nat → Nat} {ms mb lbw e : Nat → Int32} {t mt : Nat → Int64} (hN : N ≤ 64) (hT : T ≤ 2400) (hps : psum sz N = T) (hms : ∀ i, i < N → ms i = nI (sz i)) (he : ∀ i, i < N → e i = nI (psum sz (i + 1))) (hti : ∀ i, i < N → t i = mt i) (hby : ∀ k, k < T → rb lbw k = mb k &&& 255) (ha : 1 ≤ a) (ha2 : a ≤ 20) (hb : 1 ≤ b) (hb2 : b ≤ 255) (serial om : Int32) (co : Nat → Int32) (a_p a_t : Nat) :
    ∀ (M q D q0 D0 s E n0 n1 : Nat) (num go LE : Int32) (hs : Nat → Int32) (len ov : Int32) (tw : Nat → Int32) (c : Option (List Int32)),
    q < N → D ≤ sz q / 255 → psum (nsg sz) q + D + M = psum (nsg sz) N → itr sz (q0, D0) s = (q, D) → s < b → (∀ i, i < s → (itr sz (q0, D0) i).1 < N ∧ (itr sz (q0, D0) i).2 ≤ sz (itr sz (q0, D0) i).1 / 255) → (∀ i, i < s → hs i = nI (vl sz (itr sz (q0, D0) i))) → E < a → ((E = 0 ∧ LE = -1) ∨ (0 < E ∧ 0 < q ∧ LE = nI (q - 1))) → N - q ≤ n0 → sz q / 255 - D < n1 → CR 6000 0 len ov (rb tw) c →
    ∃ (r9 : Value × Value × Int32 × Int32 × Int32 × Int32 × Int32 × Int32 × Int32 × (Nat → Int32) × Int32 × Int32 × (Nat → Int32)) (c' : Option (List Int32)), fX7_write_b67 F (nI N) (nI T) 601 lbw e t 6000 1501 serial (nI a) (nI b) (fX7_write_b37 F (nI N) (nI T) 601 lbw e t 6000 1501 serial (nI a) (nI b) a_p a_t n0) n1 (nI D) (nI (sz q / 255)) (nI q) num (nI s) (nI E) LE (nI (bpos sz (q0, D0))) go hs len ov tw = some r9 ∧ CR 6000 0 r9.2.2.2.2.2.2.2.2.2.2.1 r9.2.2.2.2.2.2.2.2.2.2.2.1 (rb r9.2.2.2.2.2.2.2.2.2.2.2.2) c' ∧ (c = none → c' = none) ∧ ∀ (L : List Int32) (md mf : Int32) (dr : Nat → Int32) (n n' : Nat), c = some L → CR 6000 0 md mf (fun k => dr k &&& 255) c → M < n → M ≤ n' → ∃ (md' mf' : Int32) (dr' : Nat → Int32), fX10_pages_b176 F (nI N) ms mt mb serial (nI a) (nI b) (fX10_pages_b121 F om (nI N) co ms mt mb serial (nI a) (nI b) n') n 1 (nI E) (nI s) (nI (psum sz q0)) (nI (255 * D0)) (nI q0) go (nI q) (nI (255 * D)) (nI (psum sz q)) num md md mf dr = fX10_pages_b487 F om co md' mf' dr' ∧ CR 6000 0 md' mf' (fun k => dr' k &&& 255) c' := by
  have hsz : ∀ i, i < N → sz i ≤ 2400 := by
    intro i hi
    have h1 := psum_le (sz := sz) (show i + 1 ≤ N by omega)
    have h2 : psum sz (i + 1) = psum sz i + sz i := rfl
    omega
  have hMF : psum (nsg sz) N < F := by
    have := nsg_le sz N
    omega
  intro M
  induction M with
  | zero =>
    intro q D q0 D0 s E n0 n1 num go LE hs len ov tw c hq hD hM
    have h1 := psum_le (sz := nsg sz) (show q + 1 ≤ N by omega)
    have h2 : psum (nsg sz) (q + 1) = psum (nsg sz) q + (sz q / 255 + 1) := rfl
    omega
  | succ M ih =>
    intro q D q0 D0 s E n0 n1 num go LE hs len ov tw c hq hD hM hit hsb hin hhs hEa hLE hn0 hn1 hc
    obtain ⟨n1', rfl⟩ : ∃ n, n1 = n + 1 := ⟨n1 - 1, by omega⟩
    have hszq := hsz q hq
    have hpq := psum_le (sz := sz) (show q + 1 ≤ N by omega)
    have hpq2 : psum sz (q + 1) = psum sz q + sz q := rfl
    have hgq := gin_nI (k := q) (n := 64) (by omega) (by omega)
    have hnq2 : psum (nsg sz) (q + 1) = psum (nsg sz) q + (sz q / 255 + 1) := rfl
    have hnq1 := psum_le (sz := nsg sz) (show q + 1 ≤ N by omega)
    have hin' : ∀ i, i < s + 1 → (itr sz (q0, D0) i).1 < N ∧ (itr sz (q0, D0) i).2 ≤ sz (itr sz (q0, D0) i).1 / 255 := by
      intro i hi
      rcases Nat.lt_or_ge i s with h | h
      · exact hin i h
      · have : i = s := by omega
        rw [this, hit]
        exact ⟨hq, hD⟩
    have hhs' : ∀ v : Int32, v = nI (vl sz (q, D)) → ∀ i, i < s + 1 → upd hs s v i = nI (vl sz (itr sz (q0, D0) i)) := by
      intro v hv i hi
      rw [upd_app]
      rcases Nat.lt_or_ge i s with h | h
      · rw [if_neg (by omega)]; exact hhs i h
      · have : i = s := by omega
        rw [if_pos this, this, hit]; exact hv
    have hits : itr sz (q0, D0) (s + 1) = nx sz (q, D) := by
      show nx sz (itr sz (q0, D0) s) = _
      rw [hit]
    rw [fX7_write_b67]
    by_cases cD : D < sz q / 255
    · have hnx : nx sz (q, D) = (q, D + 1) := by unfold nx; rw [if_pos cD]
      have hvl : vl sz (q, D) = 255 := by unfold vl; rw [if_pos cD]
      rw [hnx] at hits
      rw [if_neg (nI_ge cD (by omega)), addSeg F (by omega), Option.bind_some]
      have hhs2 := hhs' 255 (by rw [hvl]; rfl)
      have hstep : ∀ (md mf : Int32) (dr : Nat → Int32) (n : Nat) (rc : Int32 → Int32 → Int32 → Int32 → Int32 → Int32 → (Nat → Int32) → Option (Int32 × Int32 × Int32 × Int32 × (Nat → Int32) × (Nat → Int32))), fX10_pages_b176 F (nI N) ms mt mb serial (nI a) (nI b) rc (n + 1) 1 (nI E) (nI s) (nI (psum sz q0)) (nI (255 * D0)) (nI q0) go (nI q) (nI (255 * D)) (nI (psum sz q)) num md md mf dr = fX10_pages_b176 F (nI N) ms mt mb serial (nI a) (nI b) rc n (if s + 1 < b then 1 else 0) (nI E) (nI (s + 1)) (nI (psum sz q0)) (nI (255 * D0)) (nI q0) go (nI q) (nI (255 * (D + 1))) (nI (psum sz q)) num md md mf dr := by
        intro md mf dr n rc
        rw [fX10_pages_b176, if_neg (show ¬ (1 : Int32) = 0 by decide), if_pos hgq, nI_clamp (by omega), hms q hq, nm_eq, nm_eq, pk_sub (by omega)]
        have hx : ¬ nI (sz q - 255 * D) < 255 := by rw [i255]; exact nI_nlt (by omega) (by omega)
        rw [if_neg hx, nm_eq, nI_1]
        unfold fX10_pages_b234
        have h255 : nI (255 * D) + 255 = nI (255 * (D + 1)) := by rw [i255, nI_add, show 255 * D + 255 = 255 * (D + 1) by omega]
        rw [h255, if_neg (nI_ge hq (by omega)), if_neg (nI_ne0 (show 0 < 255 * (D + 1) by omega) (by omega))]
        unfold fX10_pages_b283 fX10_pages_b279 fX10_pages_b284
        by_cases c2 : s + 1 < b
        · rw [if_neg (nI_ge c2 (by omega)), if_pos c2]
        · rw [if_pos (nI_le (by omega) (by omega)), if_neg c2]
      by_cases c2 : s + 1 < b
      · rw [if_pos (nI_lt c2 (by omega))]
        unfold fX7_write_b96
        rw [nm_eq, nI_1]
        obtain ⟨r9, c', h1, h2, h3, h4⟩ := ih q (D + 1) q0 D0 (s + 1) E n0 n1' num go LE (upd hs s 255) len ov tw c hq (by omega) (by omega) hits c2 hin' hhs2 hEa hLE hn0 (by omega) hc
        refine ⟨r9, c', h1, h2, h3, fun L md mf dr n n' g1 g2 g3 g4 => ?_⟩
        obtain ⟨n2, rfl⟩ : ∃ m, n = m + 1 := ⟨n - 1, by omega⟩
        obtain ⟨md', mf', dr', h5, h6⟩ := h4 L md mf dr n2 n' g1 g2 (by omega) (by omega)
        refine ⟨md', mf', dr', ?_, h6⟩
        rw [hstep, if_pos c2]
        exact h5
      · rw [if_neg (nI_nlt (by omega) (by omega))]
        have hbT : bpos sz (q, D + 1) ≤ T := by
          show psum sz q + 255 * (D + 1) ≤ T
          omega
        obtain ⟨len', ov', w', c1, p1, p2, p3, p4⟩ := pg_end F hF hN hT hsz hms hti hby (s := s + 1) hits (by omega) hin' hhs2 hbT (by omega) (E := E) (by omega) (LE := LE) (last := 0) (go := go) hLE (Or.inl ⟨rfl, by omega⟩) serial num 1 isb1 hc
        rw [p1, Option.bind_some]
        unfold fX7_write_b96
        rw [nm_eq, nI_1]
        obtain ⟨r9, c', h1, h2, h3, h4⟩ := ih q (D + 1) q (D + 1) 0 0 n0 n1' (num + 1) 1 (-1) (upd hs s 255) len' ov' w' c1 hq (by omega) (by omega) rfl (by omega) (fun i hi => by omega) (fun i hi => by omega) (by omega) (Or.inl ⟨rfl, rfl⟩) hn0 (by omega) p2
        refine ⟨r9, c', h1, h2, fun hh => h3 (p3 hh), fun L md mf dr n n' g1 g2 g3 g4 => ?_⟩
        obtain ⟨n2, rfl⟩ : ∃ m, n = m + 2 := ⟨n - 2, by omega⟩
        obtain ⟨n3, rfl⟩ : ∃ m, n' = m + 1 := ⟨n' - 1, by omega⟩
        obtain ⟨md1, mf1, dr1, s1, s2⟩ := p4 L md mf dr g1 g2 (fX10_pages_b121 F om (nI N) co ms mt mb serial (nI a) (nI b) (n3 + 1)) n2 (nI a) (nI b)
        rw [show n2 + 2 = n2 + 1 + 1 from rfl, hstep, if_neg c2, s1]
        unfold fX10_pages_b481
        rw [nm_eq, fX10_pages_b121, if_neg (nI_ge hq (by omega))]
        cases hc1 : c1 with
        | none =>
          rw [hc1] at s2
          refine ⟨md1, mf1, dr1, ?_, ?_⟩
          · rw [if_neg (by rw [s2.2]; decide)]
          · rw [h3 hc1]; exact s2
        | some L1 =>
          have hs0 : mf1 = 0 := by rw [hc1] at s2; exact s2.2.2.1
          obtain ⟨md', mf', dr', h5, h6⟩ := h4 L1 md1 mf1 dr1 F n3 hc1 s2 (by omega) (by omega)
          refine ⟨md', mf', dr', ?_, h6⟩
          rw [if_pos hs0, if_neg (nI_nle (show 0 < 255 * (D + 1) by omega) (by omega))]
          unfold fX10_pages_b153
          exact h5
    · have hDe : D = sz q / 255 := by omega
      have hnx : nx sz (q, D) = (q + 1, 0) := by unfold nx; rw [if_neg cD]
      have hvl : vl sz (q, D) = sz q - 255 * D := by unfold vl; rw [if_neg cD]
      rw [hnx] at hits
      have hmul : nI (sz q) - nI (sz q / 255) * 255 = nI (sz q - 255 * D) := by
        rw [i255, pk_mul, pk_sub (by omega), hDe, Nat.mul_comm]
      rw [if_pos (nI_le (by omega) (by omega)), bytesOf_in F hN hq he, Option.bind_some, hmul, addSeg F (by omega), Option.bind_some, nm_eq, nI_1]
      have hhs2 := hhs' (nI (sz q - 255 * D)) (by rw [hvl])
      have hbq : bpos sz (q + 1, 0) ≤ T := by
        show psum sz (q + 1) + 255 * 0 ≤ T
        omega
      -- the next packet
      have hnext : ∀ (num' s' E' LE' W' go' len' ov' : Int32) (hs' w' : Nat → Int32) (m : Nat), q + 1 < N → fX7_write_b37 F (nI N) (nI T) 601 lbw e t 6000 1501 serial (nI a) (nI b) a_p a_t (m + 1) (nI (q + 1)) hs' len' ov' w' num' s' E' LE' W' go' = fX7_write_b67 F (nI N) (nI T) 601 lbw e t 6000 1501 serial (nI a) (nI b) (fX7_write_b37 F (nI N) (nI T) 601 lbw e t 6000 1501 serial (nI a) (nI b) a_p a_t m) F (nI 0) (nI (sz (q + 1) / 255)) (nI (q + 1)) num' s' E' LE' W' go' hs' len' ov' w' := by
        intro num' s' E' LE' W' go' len' ov' hs' w' m hlt
        have := hsz (q + 1) hlt
        rw [fX7_write_b37, if_neg (nI_ge hlt (by omega)), bytesOf_in F hN hlt he, Option.bind_some, nm_eq, i255, pk_div (by omega) (by omega) (by omega), nI_0]
      obtain ⟨lv, hlv, hlv2⟩ : ∃ lv : Int32, ((lv = 0 ∧ ¬ q + 1 = N) ∨ (lv = 1 ∧ q + 1 = N)) ∧ ∀ (rc : Int32 → (Nat → Int32) → Int32 → Int32 → (Nat → Int32) → Int32 → Int32 → Int32 → Int32 → Int32 → Int32 → Option (Value × Value × Int32 × Int32 × Int32 × Int32 × Int32 × Int32 × Int32 × (Nat → Int32) × Int32 × Int32 × (Nat → Int32))) (x1 x2 x3 x4 x5 x6 x7 x8 : Int32) (y1 y2 : Nat → Int32), (if nI q = nI N - 1 then (fX7_write_b157 F (nI N) (nI T) 601 lbw t 6000 1501 serial (nI a) (nI b) rc (nI q) 1 x1 x2 y1 x3 x4 x5 x6 x7 x8 y2) else (fX7_write_b157 F (nI N) (nI T) 601 lbw t 6000 1501 serial (nI a) (nI b) rc (nI q) 0 x1 x2 y1 x3 x4 x5 x6 x7 x8 y2)) = fX7_write_b157 F (nI N) (nI T) 601 lbw t 6000 1501 serial (nI a) (nI b) rc (nI q) lv x1 x2 y1 x3 x4 x5 x6 x7 x8 y2 := by
        obtain ⟨N1, rfl⟩ : ∃ n, N = n + 1 := ⟨N - 1, by omega⟩
        rw [nI_pred]
        by_cases cq : q + 1 = N1 + 1
        · refine ⟨1, Or.inr ⟨rfl, cq⟩, fun rc x1 x2 x3 x4 x5 x6 x7 x8 y1 y2 => ?_⟩
          rw [if_pos (by rw [show q = N1 by omega])]
        · refine ⟨0, Or.inl ⟨rfl, cq⟩, fun rc x1 x2 x3 x4 x5 x6 x7 x8 y1 y2 => ?_⟩
          rw [if_neg (by rw [nI_eq (by omega) (by omega)]; omega)]
      rw [hlv2]
      unfold fX7_write_b157
      have hstep : ∀ (md mf : Int32) (dr : Nat → Int32) (n : Nat) (rc : Int32 → Int32 → Int32 → Int32 → Int32 → Int32 → (Nat → Int32) → Option (Int32 × Int32 × Int32 × Int32 × (Nat → Int32) × (Nat → Int32))), fX10_pages_b176 F (nI N) ms mt mb serial (nI a) (nI b) rc (n + 1) 1 (nI E) (nI s) (nI (psum sz q0)) (nI (255 * D0)) (nI q0) go (nI q) (nI (255 * D)) (nI (psum sz q)) num md md mf dr = fX10_pages_b176 F (nI N) ms mt mb serial (nI a) (nI b) rc n (if q + 1 = N ∨ q = 0 ∨ b ≤ s + 1 ∨ a ≤ E + 1 then 0 else 1) (nI (E + 1)) (nI (s + 1)) (nI (psum sz q0)) (nI (255 * D0)) (nI q0) go (nI (q + 1)) (nI (255 * 0)) (nI (psum sz (q + 1))) num md md mf dr := by
        intro md mf dr n rc
        rw [fX10_pages_b176, if_neg (show ¬ (1 : Int32) = 0 by decide), if_pos hgq, nI_clamp (by omega), hms q hq, nm_eq, nm_eq, pk_sub (by omega)]
        have hx : nI (sz q - 255 * D) < 255 := by rw [i255]; exact nI_lt (by omega) (by omega)
        rw [if_pos hx, if_pos hgq, nm_eq, nm_eq, nm_eq, nI_1, nI_1, nI_1, nI_add, ← hpq2]
        unfold fX10_pages_b234
        have hz : nI (255 * 0) = 0 := nI_0
        rw [hz, if_pos (rfl : (0 : Int32) = 0), if_neg (nI_nle (show 0 < E + 1 by omega) (by omega)), if_neg (show ¬ 255 ≤ nI (sz q - 255 * D) by rw [i255]; exact nI_ge (by omega) (by omega)), i1]
        unfold fX10_pages_b283 fX10_pages_b279 fX10_pages_b284
        by_cases k1 : q + 1 = N
        · rw [if_pos (nI_le (show N ≤ q + 1 by omega) (by omega)), if_pos (Or.inl k1)]
        rw [if_neg (nI_ge (show q + 1 < N by omega) (by omega))]
        by_cases k2 : b ≤ s + 1
        · rw [if_pos (nI_le k2 (by omega)), if_pos (Or.inr (Or.inr (Or.inl k2)))]
        rw [if_neg (nI_ge (show s + 1 < b by omega) (by omega))]
        by_cases k3 : a ≤ E + 1
        · rw [if_pos (show nI (E + 1) = nI a by rw [show E + 1 = a by omega]), if_pos (Or.inr (Or.inr (Or.inr k3)))]
        rw [if_neg (show ¬ nI (E + 1) = nI a by rw [nI_eq (by omega) (by omega)]; omega)]
        by_cases k4 : q = 0
        · rw [if_pos (show nI (q + 1) = nI 1 by rw [k4]), if_pos (Or.inr (Or.inl k4))]
        rw [if_neg (show ¬ nI (q + 1) = nI 1 by rw [nI_eq (by omega) (by omega)]; omega), if_neg (by omega), i1]
      obtain ⟨m0, rfl⟩ : ∃ m, n0 = m + 1 := ⟨n0 - 1, by omega⟩
      by_cases hend : q + 1 = N ∨ q = 0 ∨ b ≤ s + 1 ∨ a ≤ E + 1
      · -- the page ends
        obtain ⟨len', ov', w', c1, p1, p2, p3, p4⟩ := pg_end F hF hN hT hsz hms hti hby (s := s + 1) hits (by omega) hin' hhs2 hbq (by omega) (E := E + 1) (by omega) (LE := nI q) (last := lv) (go := go) (Or.inr ⟨by omega, by omega, by rw [show q + 1 - 1 = q by omega]⟩) hlv serial num 0 isb0 hc
        have hcl : ∀ (rc : Int32 → (Nat → Int32) → Int32 → Int32 → (Nat → Int32) → Int32 → Int32 → Int32 → Int32 → Int32 → Int32 → Option (Value × Value × Int32 × Int32 × Int32 × Int32 × Int32 × Int32 × Int32 × (Nat → Int32) × Int32 × Int32 × (Nat → Int32))), fX7_write_b187 F (nI N) (nI T) 601 lbw t 6000 1501 serial rc lv (nI q) num (nI (s + 1)) (nI (E + 1)) (nI q) (nI (bpos sz (q0, D0))) go (upd hs s (nI (sz q - 255 * D))) len ov tw = rc (nI (q + 1)) (upd hs s (nI (sz q - 255 * D))) len' ov' w' (num + 1) 0 0 (-1) (nI (bpos sz (q + 1, 0))) 0 := by
          intro rc
          unfold fX7_write_b187 fX7_write_b194
          rw [p1, Option.bind_some, nm_eq, nI_1]
        rw [hcl]
        have hchain : ∀ (α : Type) (x y : Option α), (if lv = 0 then (if nI q = 0 then x else (if nI b ≤ nI (s + 1) then x else (if nI (E + 1) < nI a then y else x))) else x) = x := by
          intro α x y
          rcases hlv with ⟨l1, l2⟩ | ⟨l1, l2⟩
          · rw [if_pos l1]
            by_cases k4 : q = 0
            · rw [if_pos (by rw [k4]; exact nI_0)]
            rw [if_neg (nI_ne0 (by omega) (by omega))]
            by_cases k2 : b ≤ s + 1
            · rw [if_pos (nI_le k2 (by omega))]
            rw [if_neg (nI_ge (by omega) (by omega)), if_neg (nI_nlt (by omega) (by omega))]
          · rw [if_neg (by rw [l1]; decide)]
        rw [hchain]
        rcases Nat.lt_or_ge (q + 1) N with hlt | hge
        · rw [hnext _ _ _ _ _ _ _ _ _ _ _ hlt]
          obtain ⟨r9, c', h1, h2, h3, h4⟩ := ih (q + 1) 0 (q + 1) 0 0 0 m0 F (num + 1) 0 (-1) (upd hs s (nI (sz q - 255 * D))) len' ov' w' c1 hlt (by omega) (by omega) rfl (by omega) (fun i hi => by omega) (fun i hi => by omega) (by omega) (Or.inl ⟨rfl, rfl⟩) (by omega) (by have := hsz (q + 1) hlt; omega) p2
          refine ⟨r9, c', h1, h2, fun hh => h3 (p3 hh), fun L md mf dr n n' g1 g2 g3 g4 => ?_⟩
          obtain ⟨n2, rfl⟩ : ∃ m, n = m + 2 := ⟨n - 2, by omega⟩
          obtain ⟨n3, rfl⟩ : ∃ m, n' = m + 1 := ⟨n' - 1, by omega⟩
          obtain ⟨md1, mf1, dr1, s1, s2⟩ := p4 L md mf dr g1 g2 (fX10_pages_b121 F om (nI N) co ms mt mb serial (nI a) (nI b) (n3 + 1)) n2 (nI a) (nI b)
          rw [show n2 + 2 = n2 + 1 + 1 from rfl, hstep, if_pos hend, s1]
          unfold fX10_pages_b481
          rw [nm_eq, fX10_pages_b121, if_neg (nI_ge hlt (by omega))]
          cases hc1 : c1 with
          | none =>
            rw [hc1] at s2
            refine ⟨md1, mf1, dr1, ?_, ?_⟩
            · rw [if_neg (by rw [s2.2]; decide)]
            · rw [h3 hc1]; exact s2
          | some L1 =>
            have hs0 : mf1 = 0 := by rw [hc1] at s2; exact s2.2.2.1
            obtain ⟨md', mf', dr', h5, h6⟩ := h4 L1 md1 mf1 dr1 F n3 hc1 s2 (by omega) (by omega)
            refine ⟨md', mf', dr', ?_, h6⟩
            rw [if_pos hs0, if_pos (show nI (255 * 0) ≤ 0 by decide)]
            unfold fX10_pages_b153
            exact h5
        · rw [fX7_write_b37, if_pos (nI_le hge (by omega))]
          refine ⟨_, c1, rfl, p2, p3, fun L md mf dr n n' g1 g2 g3 g4 => ?_⟩
          obtain ⟨n2, rfl⟩ : ∃ m, n = m + 2 := ⟨n - 2, by omega⟩
          obtain ⟨n3, rfl⟩ : ∃ m, n' = m + 1 := ⟨n' - 1, by omega⟩
          obtain ⟨md1, mf1, dr1, s1, s2⟩ := p4 L md mf dr g1 g2 (fX10_pages_b121 F om (nI N) co ms mt mb serial (nI a) (nI b) (n3 + 1)) n2 (nI a) (nI b)
          rw [show n2 + 2 = n2 + 1 + 1 from rfl, hstep, if_pos hend, s1]
          unfold fX10_pages_b481
          rw [nm_eq, fX10_pages_b121, if_pos (nI_le hge (by omega))]
          exact ⟨md1, mf1, dr1, rfl, s2⟩
      · -- the page goes on
        have hlt : q + 1 < N := by omega
        have hcl : ∀ (α : Type) (x y : Option α), (if lv = 0 then (if nI q = 0 then x else (if nI b ≤ nI (s + 1) then x else (if nI (E + 1) < nI a then y else x))) else x) = y := by
          intro α x y
          rcases hlv with ⟨l1, l2⟩ | ⟨l1, l2⟩
          · rw [if_pos l1, if_neg (nI_ne0 (by omega) (by omega)), if_neg (nI_ge (by omega) (by omega)), if_pos (nI_lt (by omega) (by omega))]
          · omega
        rw [hcl]
        unfold fX7_write_b194
        rw [nm_eq, nI_1, hnext _ _ _ _ _ _ _ _ _ _ _ hlt]
        obtain ⟨r9, c', h1, h2, h3, h4⟩ := ih (q + 1) 0 q0 D0 (s + 1) (E + 1) m0 F num go (nI q) (upd hs s (nI (sz q - 255 * D))) len ov tw c hlt (by omega) (by omega) hits (by omega) hin' hhs2 (by omega) (Or.inr ⟨by omega, by omega, by rw [show q + 1 - 1 = q by omega]⟩) (by omega) (by have := hsz (q + 1) hlt; omega) hc
        refine ⟨r9, c', h1, h2, h3, fun L md mf dr n n' g1 g2 g3 g4 => ?_⟩
        obtain ⟨n2, rfl⟩ : ∃ m, n = m + 1 := ⟨n - 1, by omega⟩
        obtain ⟨md', mf', dr', h5, h6⟩ := h4 L md mf dr n2 n' g1 g2 (by omega) (by omega)
        refine ⟨md', mf', dr', ?_, h6⟩
        rw [hstep, if_neg hend]
        exact h5
theorem in20 {q : Int32} {n : Nat} (hn : n < 2 ^ 31) (h1 : ¬ q < 1) (h2 : q ≤ nI n) : ∃ a : Nat, 1 ≤ a ∧ a ≤ n ∧ q = nI a := by
  have h0 : ¬ q < 0 := fun h => h1 (Int32.lt_trans h (by decide))
  obtain ⟨a, ha, rfl⟩ := nI_of h0
  rw [nI_leI ha hn] at h2
  rw [i1, nI_ltI ha (by omega)] at h1
  exact ⟨a, by omega, h2, rfl⟩
theorem ok_pages : OP_pages Fu := by
  intro s_length s_overfull c_sw l_packets lb_length c_lbw c_le c_lt w_source w_target w_serial w_number w_segments w_packetsEnded w_lastEnded w_written w_goesOn c_ws a_s a_l a_o M_outMany M_drafted M_full M_many c_Mout c_Mdraft c_Msize c_Mtime c_Mbytes a_length c_aw o_length c_ow h_fault h_faultPlace h_pagesRead h_clustersRead h_blocksRead M_taped c_Mtape M_total M_told M_toldAt M_pageCount M_clusterCount M_blockCount c_MheadRow c_MinfoRow c_MtracksRow c_McodecRow m_packets mb_length c_mbw c_me c_mt q0 q1 q2 hrel
  obtain ⟨hA, hO, ⟨N, T, sz, hN, hT, e5, e6, e7, e8, hps, hli, hby⟩, hf, hC⟩ := id hrel
  unfold fX9_pages fX10_pages
  by_cases h1 : q1 < 1
  · rw [if_pos h1, if_pos h1]
    exact ⟨_, _, rfl, rfl, rfl, Or.inl ⟨rfl, rfl, hrel⟩⟩
  rw [if_neg h1, if_neg h1]
  by_cases h2 : 20 < q1
  · rw [if_pos h2, if_pos h2]
    exact ⟨_, _, rfl, rfl, rfl, Or.inl ⟨rfl, rfl, hrel⟩⟩
  rw [if_neg h2, if_neg h2]
  by_cases h3 : q2 < 1
  · rw [if_pos h3, if_pos h3]
    exact ⟨_, _, rfl, rfl, rfl, Or.inl ⟨rfl, rfl, hrel⟩⟩
  rw [if_neg h3, if_neg h3]
  by_cases h4 : q2 ≤ 255
  · rw [if_pos h4, if_pos h4, e5, e6]
    by_cases h5 : N = 0
    · rw [h5, if_pos nI_0, if_pos nI_0]
      refine ⟨_, _, rfl, rfl, rfl, Or.inl ⟨rfl, rfl, ?_⟩⟩
      rw [e5, e6, h5] at hrel
      exact hrel
    · rw [if_neg (nI_ne0 (by omega) (by omega)), if_neg (nI_ne0 (by omega) (by omega))]
      obtain ⟨a, a1, a2, rfl⟩ := in20 (n := 20) (by omega) h1 (Int32.not_lt.mp h2)
      obtain ⟨b, b1, b2, rfl⟩ := in20 (n := 255) (by omega) h3 h4
      have hF : 6000 < Fu := by unfold Fu; omega
      have hord : fX4_isInOrderOfTime Fu (nI N) c_lt = _ := ord_c Fu hN N Fu 0 (-1) (by omega) (by omega) (by decide) (fun j hj => (hli j hj).2.2.2.1)
      have hrod : fX10_pages_b43 Fu M_outMany M_drafted M_full (nI N) c_Mout c_Mdraft c_Msize c_Mtime c_Mbytes q0 (nI a) (nI b) Fu 0 (-1) = _ := ord_r Fu (t := c_lt) hN (fun i hi => (hli i hi).2.2.1) M_outMany M_drafted M_full c_Mout c_Mdraft c_Msize c_Mbytes q0 (nI a) (nI b) N Fu 0 (-1) (by omega) (by omega)
      rw [hord, Option.bind_some, hrod]
      by_cases ho : ordc c_lt N 0 (-1) = true
      · rw [if_pos ho, if_pos ho, if_neg (show ¬ (1 : Int32) = 0 by decide)]
        unfold fX8_empty
        rw [Option.bind_some]
        unfold fX7_write fX7_beginPage
        rw [Option.bind_some, e7]
        dsimp only
        have hcr : CR 6000 0 0 0 (rb c_sw) (some []) := ⟨Nat.zero_le _, rfl, rfl, fun k x h => by cases h⟩
        have hcr2 : CR 6000 0 0 0 (fun k => c_Mdraft k &&& 255) (some []) := ⟨Nat.zero_le _, rfl, rfl, fun k x h => by cases h⟩
        have hMF := nsg_le sz N
        have hsz0 : sz 0 ≤ 2400 := by
          have h1 := psum_le (sz := sz) (show 0 + 1 ≤ N by omega)
          have h2 : psum sz (0 + 1) = psum sz 0 + sz 0 := rfl
          omega
        obtain ⟨f1, hf1⟩ : ∃ f1, Fu = f1 + 1 := ⟨Fu - 1, by omega⟩
        obtain ⟨r9, c', k1, k2, k3, k4⟩ := pg_sim Fu hF hN hT hps (fun i hi => (hli i hi).1) (fun i hi => (hli i hi).2.1) (fun i hi => (hli i hi).2.2.1) hby a1 a2 b1 b2 q0 M_outMany c_Mout a_l a_s (psum (nsg sz) N) 0 0 0 0 0 0 f1 Fu 0 0 (-1) c_ws 0 0 c_sw (some []) (by omega) (by omega) (by show 0 + 0 + _ = _; omega) rfl (by omega) (fun i hi => by omega) (fun i hi => by omega) (by omega) (Or.inl ⟨rfl, rfl⟩) (by omega) (by omega) hcr
        have hw : fX7_write_b37 Fu (nI N) (nI T) 601 c_lbw c_le c_lt 6000 1501 q0 (nI a) (nI b) a_l a_s Fu 0 c_ws 0 0 c_sw 0 0 0 (-1) 0 0 = some r9 := by
          rw [show fX7_write_b37 Fu (nI N) (nI T) 601 c_lbw c_le c_lt 6000 1501 q0 (nI a) (nI b) a_l a_s Fu 0 c_ws 0 0 c_sw 0 0 0 (-1) 0 0 = fX7_write_b37 Fu (nI N) (nI T) 601 c_lbw c_le c_lt 6000 1501 q0 (nI a) (nI b) a_l a_s (f1 + 1) (nI 0) c_ws 0 0 c_sw 0 0 0 (-1) 0 0 by rw [← hf1, nI_0], fX7_write_b37, if_neg (nI_ge (show 0 < N by omega) (by omega)), bytesOf_in Fu hN (show 0 < N by omega) (fun i hi => (hli i hi).2.1), Option.bind_some, nm_eq, i255, pk_div (by omega) (by omega) (by omega)]
          exact k1
        obtain ⟨md', mf', dr', k5, k6⟩ := k4 [] 0 0 c_Mdraft Fu f1 rfl hcr2 (by omega) (by omega)
        have hr : fX10_pages_b121 Fu M_outMany (nI N) c_Mout c_Msize c_Mtime c_Mbytes q0 (nI a) (nI b) Fu 0 0 0 0 0 0 c_Mdraft = fX10_pages_b487 Fu M_outMany c_Mout md' mf' dr' := by
          rw [show fX10_pages_b121 Fu M_outMany (nI N) c_Mout c_Msize c_Mtime c_Mbytes q0 (nI a) (nI b) Fu 0 0 0 0 0 0 c_Mdraft = fX10_pages_b121 Fu M_outMany (nI N) c_Mout c_Msize c_Mtime c_Mbytes q0 (nI a) (nI b) (f1 + 1) 0 (nI 0) (nI 0) (nI 0) 0 0 c_Mdraft by rw [← hf1, nI_0], fX10_pages_b121, if_neg (nI_ge (show 0 < N by omega) (by omega)), if_pos (rfl : (0 : Int32) = 0), if_pos (show nI 0 ≤ 0 by decide)]
          unfold fX10_pages_b153
          exact k5
        rw [hw, hr, Option.bind_some]
        unfold fX10_pages_b487
        rcases draw_end Fu hF k2 k6 M_outMany c_Mout a_s a_o with ⟨z1, z2⟩ | ⟨z1, g, z2, z3⟩
        · rw [z1, z2, Option.bind_some, Option.bind_some]
          refine ⟨_, _, rfl, rfl, rfl, Or.inl ⟨rfl, rfl, ?_⟩⟩
          rw [e5, e6, e7] at hrel
          exact hrel
        · rw [z1, z2, Option.bind_some, Option.bind_some]
          refine ⟨_, _, rfl, rfl, rfl, Or.inr ⟨rfl, rfl, hA, z3, ?_, hf, hC⟩⟩
          exact ⟨N, T, sz, hN, hT, rfl, rfl, rfl, e8, hps, hli, hby⟩
      · rw [if_neg ho, if_neg ho, if_pos (rfl : (0 : Int32) = 0)]
        refine ⟨_, _, rfl, rfl, rfl, Or.inl ⟨rfl, rfl, ?_⟩⟩
        rw [e5, e6] at hrel
        exact hrel
  · rw [if_neg h4, if_neg h4]
    exact ⟨_, _, rfl, rfl, rfl, Or.inl ⟨rfl, rfl, hrel⟩⟩
