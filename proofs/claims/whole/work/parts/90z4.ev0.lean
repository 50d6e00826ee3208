-- levels within levels: the stack of the one side, the calls within calls of the other
abbrev XT : Type := Int32 × Int32 × Int32 × Int32 × Int32 × Value × Value × Int64 × Int64 × Int64 × Int32 × (Nat → Int32) × (Nat → Int32) × (Nat → Int32) × (Nat → Int32) × (Nat → Int32) × (Nat → Int32) × Int32 × Int32 × Int32 × (Nat → Int32) × (Nat → Int32) × (Nat → Int64)
def CL (T : Nat) (fw : Nat → Int32) (af ap n step : Nat) (S : CT) : Option XT := fX1_read_b62 Fu (nI T) 1501 fw 2400 601 af ap n (nI step) S.1 S.2.2.2.2.2.2.2.2.2.2.1 S.2.2.2.2.2.2.2.2.2.2.2.2.2.2.2.2.1 S.2.2.2.2.2.2.2.2.2.2.2.2.2.2.2.2.2.1 S.2.2.2.2.2.2.2.2.2.2.2.2.2.2.2.2.2.2.1 S.2.2.2.2.2.2.2.2.2.2.2.2.2.2.2.2.2.2.2.1 S.2.2.2.2.2.2.2.2.2.2.2.2.2.2.2.2.2.2.2.2.1 S.2.2.2.2.2.2.2.2.2.2.2.2.2.2.2.2.2.2.2.2.2 S.2.1 S.2.2.1 S.2.2.2.1 S.2.2.2.2.1 S.2.2.2.2.2.1 S.2.2.2.2.2.2.1 S.2.2.2.2.2.2.2.1 S.2.2.2.2.2.2.2.2.1 S.2.2.2.2.2.2.2.2.2.1 S.2.2.2.2.2.2.2.2.2.2.2.1 S.2.2.2.2.2.2.2.2.2.2.2.2.1 S.2.2.2.2.2.2.2.2.2.2.2.2.2.1 S.2.2.2.2.2.2.2.2.2.2.2.2.2.2.1 S.2.2.2.2.2.2.2.2.2.2.2.2.2.2.2.1
theorem CL_bad (T : Nat) (fw : Nat → Int32) (af ap n step : Nat) (S : CT) (h : S.1 = -1) : ∃ X : XT, CL T fw af ap (n + 1) step S = some X ∧ X.1 = S.2.1 ∧ X.2.1 = S.2.2.1 := by
  unfold CL
  rw [fX1_read_b62, h]
  by_cases c : (12000 : Int32) ≤ nI step
  · rw [if_pos c]; exact ⟨_, rfl, rfl, rfl⟩
  · rw [if_neg c, if_pos (rfl : (-1 : Int32) = -1)]; exact ⟨_, rfl, rfl, rfl⟩
theorem CL_done (T : Nat) (fw : Nat → Int32) (af ap n step k : Nat) (hk : k < 2 ^ 31) (ov : Int32) (cl bl : Int32) (tn ct bs : Int64) (la : Int32) (hz ids mp en seen till : Nat → Int32) (pk pbl : Int32) (pbw pe : Nat → Int32) (pt : Nat → Int64) : CL T fw af ap (n + 1) step (nI k, 0, -1, cl, bl, nI 0, tn, ct, bs, la, hz, ids, mp, en, seen, till, pk, pbl, ov, pbw, pe, pt) = some (0, -1, cl, bl, nI 0, .ref af, .ref ap, tn, ct, bs, la, hz, ids, mp, en, seen, till, pk, pbl, ov, pbw, pe, pt) := by
  unfold CL
  dsimp only
  rw [fX1_read_b62]
  by_cases c : (12000 : Int32) ≤ nI step
  · rw [if_pos c]
  · rw [if_neg c, if_neg (m1_eq hk), if_pos (show nI 0 ≤ 0 by decide)]
theorem CL_elem {T : Nat} {fw : Nat → Int32} {af ap n step k e d : Nat} (hs : step < 12000) (hk : k < e) (he : e < 2 ^ 31) (hd : d < 4) (ov hf hp : Int32) (cl bl : Int32) (tn ct bs : Int64) (la : Int32) (hz ids mp en seen till : Nat → Int32) (pk pbl : Int32) (pbw pe : Nat → Int32) (pt : Nat → Int64) (hen : en d = nI e) : CL T fw af ap (n + 1) step (nI k, hf, hp, cl, bl, nI (d + 1), tn, ct, bs, la, hz, ids, mp, en, seen, till, pk, pbl, ov, pbw, pe, pt) = (fX1_readElement Fu hf hp cl bl (nI (d + 1)) tn ct bs la hz ids mp en seen till (nI T) 1501 fw pk 2400 pbl ov 601 pbw pe pt d (nI k)).bind fun o => CL T fw af ap n (step + 1) o := by
  unfold CL
  dsimp only
  rw [fX1_read_b62, if_neg (show ¬ (12000 : Int32) ≤ nI step from nI_ge (show step < 12000 from hs) (show 12000 < 2 ^ 31 by omega)), if_neg (m1_eq (by omega)), if_neg (show ¬ nI (d + 1) ≤ 0 from nI_ge (show 0 < d + 1 by omega) (by omega)), if_neg (show ¬ (5 : Int32) < nI (d + 1) from nI_nlt (show d + 1 ≤ 5 by omega) (show 5 < 2 ^ 31 by omega)), nm_eq, show nI (d + 1) - 1 = nI d by rw [i1, pk_sub (by omega)]; rfl, if_pos (gin_nI (show d < 5 by omega) (by omega)), nm_eq, nI_clamp (by omega), hen, if_neg (nI_ge hk he)]
  unfold fX1_read_b137
  simp only [nm_eq, nI_1]
theorem CL_close {T : Nat} {fw : Nat → Int32} {af ap n step k e d : Nat} (hs : step < 12000) (hk : e ≤ k) (he : k < 2 ^ 31) (hd : d < 4) (ov hf hp : Int32) (cl bl : Int32) (tn ct bs : Int64) (la : Int32) (hz ids mp en seen till : Nat → Int32) (pk pbl : Int32) (pbw pe : Nat → Int32) (pt : Nat → Int64) (hen : en d = nI e) : CL T fw af ap (n + 1) step (nI k, hf, hp, cl, bl, nI (d + 1), tn, ct, bs, la, hz, ids, mp, en, seen, till, pk, pbl, ov, pbw, pe, pt) = (fX1_closeLevel Fu hf hp (nI (d + 1)) ids mp seen d (nI k)).bind fun o9 => CL T fw af ap n (step + 1) (o9.1, o9.2.1, o9.2.2.1, cl, bl, o9.2.2.2, tn, ct, bs, la, hz, ids, mp, en, seen, till, pk, pbl, ov, pbw, pe, pt) := by
  unfold CL
  dsimp only
  rw [fX1_read_b62, if_neg (show ¬ (12000 : Int32) ≤ nI step from nI_ge (show step < 12000 from hs) (show 12000 < 2 ^ 31 by omega)), if_neg (m1_eq (by omega)), if_neg (show ¬ nI (d + 1) ≤ 0 from nI_ge (show 0 < d + 1 by omega) (by omega)), if_neg (show ¬ (5 : Int32) < nI (d + 1) from nI_nlt (show d + 1 ≤ 5 by omega) (show 5 < 2 ^ 31 by omega)), nm_eq, show nI (d + 1) - 1 = nI d by rw [i1, pk_sub (by omega)]; rfl, if_pos (gin_nI (show d < 5 by omega) (by omega)), nm_eq, nI_clamp (by omega), hen, if_pos (nI_le hk he)]
  unfold fX1_read_b137
  simp only [nm_eq, nI_1]
theorem closeL_bad {hf hp dep at_ : Int32} {ids mp seen : Nat → Int32} {d : Nat} (h : fX1_lacksSome Fu (ids d) (seen d) = some 1) : fX1_closeLevel Fu hf hp dep ids mp seen d at_ = some (-1, 7, mp d, dep) := by
  unfold fX1_closeLevel fX1_fail
  rw [h, Option.bind_some, if_neg (show ¬ (1 : Int32) = 0 by decide), Option.bind_some]
theorem closeL_ok {hf hp at_ : Int32} {ids mp seen : Nat → Int32} {d : Nat} (h : fX1_lacksSome Fu (ids d) (seen d) = some 0) : fX1_closeLevel Fu hf hp (nI (d + 1)) ids mp seen d at_ = some (at_, hf, hp, nI d) := by
  unfold fX1_closeLevel
  rw [h, Option.bind_some, if_pos (rfl : (0 : Int32) = 0), nm_eq, i1, pk_sub (by omega)]
  rfl
def AG (d : Nat) (ids mp en seen till ids' mp' en' seen' till' : Nat → Int32) : Prop := ∀ j, j < d → ids' j = ids j ∧ mp' j = mp j ∧ en' j = en j ∧ seen' j = seen j ∧ till' j = till j
def NI (i : Nat) (seen : Int32) (tn : Int64) (num : Int32) : Prop := (i = 6 ∨ i = 7 ∨ (i = 5 ∧ bt seen 16 = true) ∨ (i = 4 ∧ bt seen 15 = true) ∨ (i = 2 ∧ bt seen 14 = true)) → NUM tn num
theorem NI_step {i r : Nat} (hr : r < 27) {seen : Int32} {tn tn' : Int64} {num num' : Int32} (h : NI i seen tn num) (h1 : NUM tn num → NUM tn' num') (h2 : (r = 16 ∨ r = 15 ∨ r = 14) → NUM tn' num') : NI i (seen ||| ((1 : Int32) <<< (nI r &&& 31))) tn' num' := by
  intro hh
  rcases hh with q | q | ⟨q, b⟩ | ⟨q, b⟩ | ⟨q, b⟩
  · exact h1 (h (Or.inl q))
  · exact h1 (h (Or.inr (Or.inl q)))
  · rw [sset seen (by omega) (by omega), Bool.or_eq_true, decide_eq_true_eq] at b
    rcases b with b | b
    · exact h1 (h (Or.inr (Or.inr (Or.inl ⟨q, b⟩))))
    · exact h2 (Or.inl b.symm)
  · rw [sset seen (by omega) (by omega), Bool.or_eq_true, decide_eq_true_eq] at b
    rcases b with b | b
    · exact h1 (h (Or.inr (Or.inr (Or.inr (Or.inl ⟨q, b⟩)))))
    · exact h2 (Or.inr (Or.inl b.symm))
  · rw [sset seen (by omega) (by omega), Bool.or_eq_true, decide_eq_true_eq] at b
    rcases b with b | b
    · exact h1 (h (Or.inr (Or.inr (Or.inr (Or.inr ⟨q, b⟩)))))
    · exact h2 (Or.inr (Or.inr b.symm))
theorem t6 : ∀ r, r < 27 → (r = 0 ∨ par r = 6) → (trk r = true ↔ r = 22) ∧ (r = 22 → bx r = 0) := by decide +kernel
theorem HT_step {i r : Nat} (hr : r < 27) (hp : r = 0 ∨ par r = i) {met has has' : Int32} (h : HT i met has) (h2 : i = 6 → has' = if r = 22 then 1 else has) : HT i (metN r met) has' := by
  intro h6
  obtain ⟨a6, b6⟩ := h h6
  subst h6
  obtain ⟨t1, t2⟩ := t6 r hr hp
  rw [metN_bt hr met (by omega), h2 rfl, Bool.or_eq_true, ← b6]
  by_cases c : r = 22
  · rw [if_pos c, t1.mpr c, t2 c]
    exact ⟨Or.inr rfl, fun _ => Or.inr rfl, fun _ => rfl⟩
  · rw [if_neg c]
    cases ht : trk r with
    | true => exact absurd (t1.mp ht) c
    | false =>
      rw [Bool.false_and]
      exact ⟨a6, fun q => Or.inl q, fun q => q.resolve_right (fun z => by cases z)⟩
def EVC (T : Nat) (fw : Nat → Int32) (af ap : Nat) (ov : Int32) (d e k i : Nat) (op : Int32) (C : Option XT) (R : Option RT) (tn : Int64) (num has : Int32) (ids mp en seen till : Nat → Int32) : Prop :=
  (∃ (f fp : Int32) (X : XT) (Y : RT), 0 < f ∧ C = some X ∧ X.1 = f ∧ X.2.1 = fp ∧ R = some Y ∧ Y.1 = 0 ∧ Y.2.2.2.1 = f ∧ Y.2.2.2.2.1 = fp) ∨
  (∃ (k' step' n1' : Nat) (cl' bl' : Int32) (tn' ct' bs' : Int64) (la' : Int32) (hz' ids' mp' en' seen' till' : Nat → Int32) (pk' pbl' : Int32) (pbw' pe' : Nat → Int32) (pt' : Nat → Int64) (rm' rtot' cls' bls' num' : Int32) (ctm' : Int64) (has' rid' rfr' rto' run' : Int32) (rs' : Nat → Int32) (rt' : Nat → Int64) (rby' sz' : Nat → Int32), C = CL T fw af ap n1' step' (nI k', 0, -1, cl', bl', nI d, tn', ct', bs', la', hz', ids', mp', en', seen', till', pk', pbl', ov, pbw', pe', pt') ∧ R = some (1, rm', rtot', 0, -1, cls', bls', num', ctm', has', rid', rfr', rto', run', nI k', rs', rt', rby', sz') ∧ k ≤ k' ∧ k' ≤ e ∧ (op = 0 → k' = e) ∧ n1' + step' = Fu ∧ step' + d ≤ k' + 1 ∧ AG d ids mp en seen till ids' mp' en' seen' till' ∧ cl' = cls' ∧ bl' = bls' ∧ ((i = 6 ∨ i = 7) → CTR ct' ctm' has') ∧ RLi pk' pbl' pbw' pe' pt' rm' rtot' rs' rt' rby' ∧ (NUM tn num → NUM tn' num') ∧ ((i = 4 ∨ i = 5) → NUM tn' num') ∧ (i = 7 → has' = has))
theorem EVC_mono {T : Nat} {fw : Nat → Int32} {af ap : Nat} {ov : Int32} {d e k k2 i : Nat} {op : Int32} {C : Option XT} {R : Option RT} {tn tn2 : Int64} {num num2 has has2 : Int32} {ids mp en seen till ids2 mp2 en2 seen2 till2 : Nat → Int32} (h : EVC T fw af ap ov d e k2 i op C R tn2 num2 has2 ids2 mp2 en2 seen2 till2) (h1 : k ≤ k2) (h2 : NUM tn num → NUM tn2 num2) (h3 : i = 7 → has2 = has) (h4 : AG d ids mp en seen till ids2 mp2 en2 seen2 till2) : EVC T fw af ap ov d e k i op C R tn num has ids mp en seen till := by
  rcases h with h | ⟨k', step', n1', cl', bl', tn', ct', bs', la', hz', ids', mp', en', seen', till', pk', pbl', pbw', pe', pt', rm', rtot', cls', bls', num', ctm', has', rid', rfr', rto', run', rs', rt', rby', sz', q1, q2, q3, q4, q5, q6, q7, q8, q9, q10, q11, q12, q13, q14, q15⟩
  · exact Or.inl h
  · refine Or.inr ⟨k', step', n1', cl', bl', tn', ct', bs', la', hz', ids', mp', en', seen', till', pk', pbl', pbw', pe', pt', rm', rtot', cls', bls', num', ctm', has', rid', rfr', rto', run', rs', rt', rby', sz', q1, q2, by omega, q4, q5, q6, q7, fun j hj => ?_, q9, q10, q11, q12, fun z => q13 (h2 z), q14, fun z => (q15 z).trans (h3 z)⟩
    obtain ⟨a1, a2, a3, a4, a5⟩ := q8 j hj
    obtain ⟨b1, b2, b3, b4, b5⟩ := h4 j hj
    exact ⟨a1.trans b1, a2.trans b2, a3.trans b3, a4.trans b4, a5.trans b5⟩
theorem ev_close {T : Nat} {fw : Nat → Int32} {af ap n step k e d i : Nat} {op pl ov met : Int32} {cl bl : Int32} {tn ct bs : Int64} {la : Int32} {hz ids mp en seen till : Nat → Int32} {pk pbl : Int32} {pbw pe : Nat → Int32} {pt : Nat → Int64} {rm rtot cls bls num : Int32} {ctm : Int64} {has rid rfr rto run rov : Int32} {rs : Nat → Int32} {rt : Nat → Int64} {rby sz : Nat → Int32} {C : Option XT} {R : Option RT} (hi : i < 8) (hids : ids d = idl i) (hmp : mp d = pl) (hLV : LV i (seen d) met) (hHT : HT i met has) (hNI : NI i (seen d) tn num) (hst : n + (step + 1) = Fu) (hn : 0 < n) (hstep : step + (d + 1) ≤ k + 1) (hke : k ≤ e) (hop : op = 0 → k = e) (hcl : cl = cls) (hbl : bl = bls) (hct : (i = 6 ∨ i = 7) → CTR ct ctm has) (hrl : RLi pk pbl pbw pe pt rm rtot rs rt rby) (hC : ∀ o9 : Int32 × Int32 × Int32 × Int32, fX1_closeLevel Fu 0 (-1) (nI (d + 1)) ids mp seen d (nI k) = some o9 → C = CL T fw af ap n (step + 1) (o9.1, o9.2.1, o9.2.2.1, cl, bl, o9.2.2.2, tn, ct, bs, la, hz, ids, mp, en, seen, till, pk, pbl, ov, pbw, pe, pt)) (hR : R = (fX10_has Fu 0 (-1) has pl (nI i) met).bind fun o1 => if isb o1.1 = true then some (o1.1, rm, rtot, o1.2.1, o1.2.2, cls, bls, num, ctm, has, rid, rfr, rto, run, nI k, rs, rt, rby, sz) else none) : EVC T fw af ap ov d e k i op C R tn num has ids mp en seen till := by
  rcases close_eq hi hLV hHT with ⟨h1, h2⟩ | ⟨h1, h5, h4, h2⟩
  · left
    rw [← hids] at h1
    have hc := hC _ (closeL_bad h1)
    obtain ⟨n', rfl⟩ : ∃ n', n = n' + 1 := ⟨n - 1, by omega⟩
    obtain ⟨X, x1, x2, x3⟩ := CL_bad T fw af ap n' (step + 1) (-1, 7, mp d, cl, bl, nI (d + 1), tn, ct, bs, la, hz, ids, mp, en, seen, till, pk, pbl, ov, pbw, pe, pt) rfl
    rw [h2, Option.bind_some, if_pos isb0] at hR
    exact ⟨7, pl, X, _, by decide, hc.trans x1, x2, x3.trans hmp, hR, rfl, rfl, rfl⟩
  · right
    rw [← hids] at h1
    have hc := hC _ (closeL_ok h1)
    rw [h2, Option.bind_some, if_pos isb1] at hR
    refine ⟨k, step + 1, n, cl, bl, tn, ct, bs, la, hz, ids, mp, en, seen, till, pk, pbl, pbw, pe, pt, rm, rtot, cls, bls, num, ctm, has, rid, rfr, rto, run, rs, rt, rby, sz, hc, hR, Nat.le_refl _, hke, hop, hst, by omega, fun j hj => ⟨rfl, rfl, rfl, rfl, rfl⟩, hcl, hbl, hct, hrl, fun z => z, fun z => ?_, fun _ => rfl⟩
    rcases z with z | z
    · exact hNI (Or.inr (Or.inr (Or.inr (Or.inl ⟨z, h4 z⟩))))
    · exact hNI (Or.inr (Or.inr (Or.inl ⟨z, h5 z⟩)))
theorem id21i : ∀ r, r < 27 → (idr r = 524531317 ↔ r = 21) := by decide +kernel
theorem id0v : idr 0 = 236 := by decide +kernel
theorem mC {r : Nat} (h : isM r = true) : r = 1 ∨ r = 9 ∨ r = 10 ∨ r = 14 ∨ r = 15 ∨ r = 21 ∨ r = 24 := by
  simp only [isM, Bool.or_eq_true, decide_eq_true_eq] at h
  omega
theorem parM : par 1 = 0 ∧ par 9 = 0 ∧ par 10 = 2 ∧ par 14 = 2 ∧ par 15 = 4 ∧ par 21 = 2 ∧ par 24 = 6 := by decide
theorem srtM : srt 1 = 1 ∧ srt 9 = 2 ∧ srt 10 = 3 ∧ srt 14 = 4 ∧ srt 15 = 5 ∧ srt 21 = 6 ∧ srt 24 = 7 := by decide
theorem no57 {i r : Nat} (hlv : i = 5 ∨ i = 7) (hp : r = 0 ∨ par r = i) (hM : isM r = true) : False := by
  obtain ⟨a1, a2, a3, a4, a5, a6, a7⟩ := parM
  rcases mC hM with h | h | h | h | h | h | h <;> subst h <;> omega
theorem ch2 {i r : Nat} (hlv : i = 3 ∨ i = 4 ∨ i = 6) (hp : par r = i) (hM : isM r = true) : srt r = 5 ∨ srt r = 7 := by
  obtain ⟨a1, a2, a3, a4, a5, a6, a7⟩ := parM
  obtain ⟨b1, b2, b3, b4, b5, b6, b7⟩ := srtM
  rcases mC hM with h | h | h | h | h | h | h <;> subst h <;> omega
theorem ch3 {i r : Nat} (hlv : i = 1 ∨ i = 2) (hp : par r = i) (hM : isM r = true) : srt r = 3 ∨ srt r = 4 ∨ srt r = 6 := by
  obtain ⟨a1, a2, a3, a4, a5, a6, a7⟩ := parM
  obtain ⟨b1, b2, b3, b4, b5, b6, b7⟩ := srtM
  rcases mC hM with h | h | h | h | h | h | h <;> subst h <;> omega
theorem ch4 {i r : Nat} (hlv : i = 0) (hp : par r = i) (hM : isM r = true) : srt r = 1 ∨ srt r = 2 := by
  obtain ⟨a1, a2, a3, a4, a5, a6, a7⟩ := parM
  obtain ⟨b1, b2, b3, b4, b5, b6, b7⟩ := srtM
  rcases mC hM with h | h | h | h | h | h | h <;> subst h <;> omega
theorem mP {r : Nat} (hM : isM r = true) : ¬ r = 0 ∧ (srt r = 6 → r = 21) ∧ (srt r = 7 → r = 24) ∧ (r = 15 → srt r = 5) ∧ (r = 14 → srt r = 4) ∧ ¬ r = 16 ∧ ¬ r = 22 ∧ srt r < 8 ∧ (par r = 6 → r = 24) := by
  obtain ⟨a1, a2, a3, a4, a5, a6, a7⟩ := parM
  obtain ⟨b1, b2, b3, b4, b5, b6, b7⟩ := srtM
  rcases mC hM with h | h | h | h | h | h | h <;> subst h <;> omega
theorem ar_e {e k k' q m : Nat} (h1 : e - k ≤ m + 1) (g1 : k + 2 ≤ q) (q3 : q ≤ k') : e - k' ≤ m := by omega
theorem ar_n {n1 step : Nat} (h3 : n1 + 1 + step = Fu) : n1 + (step + 1) = Fu := by omega
theorem ar_s {step k q d : Nat} (h4 : step + (d + 1) ≤ k + 1) (g1 : k + 2 ≤ q) : step + 1 + (d + 1 + 1) ≤ q + 1 := by omega
theorem ar_t {step k q tt d : Nat} (h4 : step + (d + 1) ≤ k + 1) (g1 : k + 2 ≤ q) (g2 : q ≤ tt) : step + 1 + (d + 1) ≤ tt + 1 := by omega
theorem ar_f {tt q e T : Nat} (g3 : tt ≤ e) (he : e ≤ T) (hT : T ≤ 6000) : tt - q < Fu := by
  unfold Fu
  omega
theorem ar_k {k q k' : Nat} (g1 : k + 2 ≤ q) (q3 : q ≤ k') : k ≤ k' := by omega
theorem ar_1 {n1 step k e T d : Nat} (h3 : n1 + 1 + step = Fu) (h4 : step + (d + 1) ≤ k + 1) (h2 : k ≤ e) (he : e ≤ T) (hT : T ≤ 6000) : ∃ n', n1 = n' + 1 := ⟨n1 - 1, by unfold Fu at h3; omega⟩
theorem ar_7 {i : Nat} (hlv : i = 3 ∨ i = 4 ∨ i = 6 ∨ i = 1 ∨ i = 2 ∨ i = 0) (z : i = 7) : False := by omega
theorem ar_6 {i : Nat} (hlv : i = 3 ∨ i = 4 ∨ i = 6 ∨ i = 1 ∨ i = 2 ∨ i = 0) (z : i = 6 ∨ i = 7) : i = 6 := by omega
theorem lP1 : ∀ r, r < 27 → isL r = true → ¬ r = 15 ∧ ¬ r = 14 ∧ ¬ r = 0 := by decide +kernel
theorem lP {r : Nat} (hr : r < 27) (hL : isL r = true) : ¬ r = 15 ∧ ¬ r = 14 ∧ ¬ r = 0 ∧ (r = 23 → par r = 6) ∧ (r = 25 → par r = 7) ∧ (par r = 7 → ¬ r = 22) := by
  obtain ⟨a, b, c⟩ := lP1 r hr hL
  exact ⟨a, b, c, fun h => by rw [h]; rfl, fun h => by rw [h]; rfl, fun h h2 => by rw [h2] at h; exact absurd h (by decide)⟩
