-- levels, the calls of depth 4
theorem ecl4 {mt : Nat → Int32} {e k i n : Nat} {op pl met : Int32} (rm rtot cls bls num : Int32) (ctm : Int64) (has rid rfr rto run rov : Int32) (rs : Nat → Int32) (rt : Nat → Int64) (rby sz : Nat → Int32) (hx : nI e ≤ nI k ∨ (op = 1 ∧ ¬ nI e ≤ nI k ∧ fX10_isCluster Fu mt (nI k) (nI e) = some 1)) : fX10_elements_v4_b6 Fu mt pl (nI e) (nI i) op (n + 1) (nI k) met rm rtot 0 (-1) cls bls num ctm has rid rfr rto run rov rs rt rby sz = (fX10_has Fu 0 (-1) has pl (nI i) met).bind fun o1 => if isb o1.1 = true then some (o1.1, rm, rtot, o1.2.1, o1.2.2, cls, bls, num, ctm, has, rid, rfr, rto, run, nI k, rs, rt, rby, sz) else none := by
  rw [fX10_elements_v4_b6]
  rcases hx with h | ⟨h1, h2, h3⟩
  · rw [if_pos h]; rfl
  · rw [if_neg h2, if_neg (by rw [h1]; decide), h3, Option.bind_some, if_neg (show ¬ (1 : Int32) = 0 by decide)]; rfl
theorem est4 {mt : Nat → Int32} {e k i n : Nat} {op pl met : Int32} (rm rtot cls bls num : Int32) (ctm : Int64) (has rid rfr rto run rov : Int32) (rs : Nat → Int32) (rt : Nat → Int64) (rby sz : Nat → Int32) (hx : ¬ nI e ≤ nI k) (ho : op = 0 ∨ fX10_isCluster Fu mt (nI k) (nI e) = some 0) : fX10_elements_v4_b6 Fu mt pl (nI e) (nI i) op (n + 1) (nI k) met rm rtot 0 (-1) cls bls num ctm has rid rfr rto run rov rs rt rby sz = pre30 0 (-1) rid rfr rto run mt (nI k) (nI e) (nI i) met (fun b f fa rid rfr rto run => fX10_elements_v4_b87 Fu mt (fX10_elements_v4_b6 Fu mt pl (nI e) (nI i) op n) b met (nI k) rs rt rby sz rm rtot f fa cls bls num ctm has rid rfr rto run rov) (fun z f fa rid rfr rto run => some (z, rm, rtot, f, fa, cls, bls, num, ctm, has, rid, rfr, rto, run, rov, rs, rt, rby, sz)) := by
  rw [fX10_elements_v4_b6, if_neg hx]
  by_cases c : op = 0
  · rw [if_pos c]; rfl
  · rw [if_neg c, ho.resolve_left c, Option.bind_some, if_pos (rfl : (0 : Int32) = 0)]; rfl
theorem ek4 {mt : Nat → Int32} {r : Nat} (hr : r < 27) (rc : Int32 → Int32 → Int32 → Int32 → Int32 → Int32 → Int32 → Int32 → Int32 → Int64 → Int32 → Int32 → Int32 → Int32 → Int32 → Int32 → (Nat → Int32) → (Nat → Int64) → (Nat → Int32) → (Nat → Int32) → Option RT) (rm rtot cls bls num : Int32) (ctm : Int64) (has rov : Int32) (rs : Nat → Int32) (rt : Nat → Int64) (rby sz : Nat → Int32) (met k f fa fr to un : Int32) : fX10_elements_v4_b87 Fu mt rc (bitv r) met k rs rt rby sz rm rtot f fa cls bls num ctm has (idr r) fr to un rov = fX10_elements_v4_b109 Fu mt rc (metN r met) k rm rtot f fa cls bls num ctm has (idr r) fr to un rov rs rt rby sz := by
  unfold fX10_elements_v4_b87 metN
  simp only [nm_eq]
  by_cases c : r = 21
  · rw [if_pos ((id21i r hr).mpr c), if_pos c]
  · rw [if_neg (fun h => c ((id21i r hr).mp h)), if_neg c]
theorem ev04 {mt : Nat → Int32} (rc : Int32 → Int32 → Int32 → Int32 → Int32 → Int32 → Int32 → Int32 → Int32 → Int64 → Int32 → Int32 → Int32 → Int32 → Int32 → Int32 → (Nat → Int32) → (Nat → Int64) → (Nat → Int32) → (Nat → Int32) → Option RT) (rm rtot cls bls num : Int32) (ctm : Int64) (has rov : Int32) (rs : Nat → Int32) (rt : Nat → Int64) (rby sz : Nat → Int32) (met k f fa fr to un : Int32) : fX10_elements_v4_b109 Fu mt rc met k rm rtot f fa cls bls num ctm has (idr 0) fr to un rov rs rt rby sz = rc to met rm rtot f fa cls bls num ctm has (idr 0) fr to un rov rs rt rby sz := by
  unfold fX10_elements_v4_b109 fX10_elements_v4_b225
  rw [if_pos id0v]
theorem el4 {mt : Nat → Int32} {r : Nat} (hr : r < 27) (hl : isL r = true) (rc : Int32 → Int32 → Int32 → Int32 → Int32 → Int32 → Int32 → Int32 → Int32 → Int64 → Int32 → Int32 → Int32 → Int32 → Int32 → Int32 → (Nat → Int32) → (Nat → Int64) → (Nat → Int32) → (Nat → Int32) → Option RT) (rm rtot cls bls num : Int32) (ctm : Int64) (has rov : Int32) (rs : Nat → Int32) (rt : Nat → Int64) (rby sz : Nat → Int32) (met k f fa fr to un : Int32) : fX10_elements_v4_b109 Fu mt rc met k rm rtot f fa cls bls num ctm has (idr r) fr to un rov rs rt rby sz = (fX10_plain Fu rm rtot f fa bls num ctm has (idr r) fr to mt rs rt rby sz k).bind fun o6 => if o6.1 = 0 then (some (0, o6.2.1, o6.2.2.1, o6.2.2.2.1, o6.2.2.2.2.1, cls, o6.2.2.2.2.2.1, o6.2.2.2.2.2.2.1, o6.2.2.2.2.2.2.2.1, o6.2.2.2.2.2.2.2.2.1, idr r, fr, to, un, rov, o6.2.2.2.2.2.2.2.2.2.1, o6.2.2.2.2.2.2.2.2.2.2.1, o6.2.2.2.2.2.2.2.2.2.2.2.1, o6.2.2.2.2.2.2.2.2.2.2.2.2)) else (rc to met o6.2.1 o6.2.2.1 o6.2.2.2.1 o6.2.2.2.2.1 cls o6.2.2.2.2.2.1 o6.2.2.2.2.2.2.1 o6.2.2.2.2.2.2.2.1 o6.2.2.2.2.2.2.2.2.1 (idr r) fr to un rov o6.2.2.2.2.2.2.2.2.2.1 o6.2.2.2.2.2.2.2.2.2.2.1 o6.2.2.2.2.2.2.2.2.2.2.2.1 o6.2.2.2.2.2.2.2.2.2.2.2.2) := by
  obtain ⟨l1, l2⟩ := lT r hr hl
  unfold fX10_elements_v4_b109 fX10_elements_v4_b225
  rw [if_neg l2, l1, Option.bind_some, if_pos (rfl : (-1 : Int32) = -1)]
theorem em4 {mt : Nat → Int32} {r : Nat} (hr : r < 27) (hM : isM r = true) {un : Int32} (hu : un = 0 ∨ un = 1) (rc : Int32 → Int32 → Int32 → Int32 → Int32 → Int32 → Int32 → Int32 → Int32 → Int64 → Int32 → Int32 → Int32 → Int32 → Int32 → Int32 → (Nat → Int32) → (Nat → Int64) → (Nat → Int32) → (Nat → Int32) → Option RT) (rm rtot cls bls num : Int32) (ctm : Int64) (has rov : Int32) (rs : Nat → Int32) (rt : Nat → Int64) (rby sz : Nat → Int32) (met k f fa fr to : Int32) : fX10_elements_v4_b109 Fu mt rc met k rm rtot f fa cls bls num ctm has (idr r) fr to un rov rs rt rby sz = fX10_elements_v4_b191 Fu mt rc (if r = 21 ∧ un = 1 then 1 else 0) met k to (nI (srt r)) rm rtot f fa (if r = 21 then cls + 1 else cls) bls num ctm (if r = 21 then 0 else has) (idr r) fr to un rov rs rt rby sz := by
  obtain ⟨m1, m2, m3, m4, m5, m6⟩ := mT r hr hM
  obtain ⟨p1, p2, p3, p4, p5, p6, p7, p8, p9⟩ := mP hM
  unfold fX10_elements_v4_b109 fX10_elements_v4_b166 fX10_elements_v4_b167
  rw [if_neg m5, m4, Option.bind_some, if_neg (m1_eq (by omega))]
  simp only [nm_eq]
  by_cases c : r = 21
  · rw [if_pos (m6.mpr c), if_pos (m6.mpr c), if_pos (m6.mpr c), if_pos c, if_pos c]
    rcases hu with h | h
    · rw [if_pos h, if_neg (show ¬ (r = 21 ∧ un = 1) from fun z => by rw [h] at z; exact absurd z.2 (by decide))]
    · rw [if_neg (by rw [h]; decide), if_pos (show r = 21 ∧ un = 1 from ⟨c, h⟩)]
  · rw [if_neg (fun h => c (m6.mp h)), if_neg (fun h => c (m6.mp h)), if_neg c, if_neg c, if_neg (show ¬ (r = 21 ∧ un = 1) from fun z => c z.1)]
theorem ev4 {T : Nat} {fw mt : Nat → Int32} (hm : ∀ k, k < T → mt k &&& 255 = nI (bw fw k)) (hT : T ≤ 6000) (af ap : Nat) (ov : Int32) : ∀ (e i : Nat) (op pl : Int32), e ≤ T → (i = 0) → (op = 0 ∨ op = 1) → ∀ (m k step n1 n2 : Nat) (cl bl : Int32) (tn ct bs : Int64) (la : Int32) (hz ids mp en seen till : Nat → Int32) (pk pbl : Int32) (pbw pe : Nat → Int32) (pt : Nat → Int64) (met : Int32) (rm rtot cls bls num : Int32) (ctm : Int64) (has rid rfr rto run rov : Int32) (rs : Nat → Int32) (rt : Nat → Int64) (rby sz : Nat → Int32), e - k ≤ m → k ≤ e → n1 + step = Fu → step + (0 + 1) ≤ k + 1 → m < n2 → ids 0 = idl i → mp 0 = pl → en 0 = nI e → till 0 = op → LV i (seen 0) met → HT i met has → NI i (seen 0) tn num → cl = cls → bl = bls → ((i = 6 ∨ i = 7) → CTR ct ctm has) → RLi pk pbl pbw pe pt rm rtot rs rt rby → EVC T fw af ap ov 0 e k i op (CL T fw af ap n1 step (nI k, 0, -1, cl, bl, nI (0 + 1), tn, ct, bs, la, hz, ids, mp, en, seen, till, pk, pbl, ov, pbw, pe, pt)) (fX10_elements_v4_b6 Fu mt pl (nI e) (nI i) op n2 (nI k) met rm rtot 0 (-1) cls bls num ctm has rid rfr rto run rov rs rt rby sz) tn num has ids mp en seen till := by
  intro e i op pl he hlv hop m
  have hi8 : i < 8 := by omega
  induction m with
  | zero =>
    intro k step n1 n2 cl bl tn ct bs la hz ids mp en seen till pk pbl pbw pe pt met rm rtot cls bls num ctm has rid rfr rto run rov rs rt rby sz h1 h2 h3 h4 h5 hids hmp hen htill hLV hHT hNI hcl hbl hct hrl
    obtain ⟨n1, rfl⟩ : ∃ n', n1 = n' + 1 := ⟨n1 - 1, by unfold Fu at h3; omega⟩
    obtain ⟨n2, rfl⟩ : ∃ n', n2 = n' + 1 := ⟨n2 - 1, by omega⟩
    exact ev_close (n := n1) (step := step) (bs := bs) (la := la) (hz := hz) (rid := rid) (rfr := rfr) (rto := rto) (run := run) (rov := rov) (sz := sz) hi8 hids hmp hLV hHT hNI (by omega) (by unfold Fu at h3; omega) h4 h2 (fun _ => by omega) hcl hbl hct hrl (fun o9 ho => by
        rw [CL_close (e := e) (show step < 12000 by omega) (by omega) (by omega) (by omega) ov 0 (-1) cl bl tn ct bs la hz ids mp en seen till pk pbl pbw pe pt hen, ho, Option.bind_some]) (ecl4 rm rtot cls bls num ctm has rid rfr rto run rov rs rt rby sz (Or.inl (nI_le (by omega) (by omega))))
  | succ m ih =>
    intro k step n1 n2 cl bl tn ct bs la hz ids mp en seen till pk pbl pbw pe pt met rm rtot cls bls num ctm has rid rfr rto run rov rs rt rby sz h1 h2 h3 h4 h5 hids hmp hen htill hLV hHT hNI hcl hbl hct hrl
    obtain ⟨n1, rfl⟩ : ∃ n', n1 = n' + 1 := ⟨n1 - 1, by unfold Fu at h3; omega⟩
    obtain ⟨n2, rfl⟩ : ∃ n', n2 = n' + 1 := ⟨n2 - 1, by omega⟩
    rcases Nat.lt_or_ge k e with hk | hk
    · have hnk : ¬ nI e ≤ nI k := nI_ge hk (by omega)
      have hEl := CL_elem (T := T) (fw := fw) (af := af) (ap := ap) (n := n1) (d := 0) (show step < 12000 by omega) hk (show e < 2 ^ 31 by omega) (by omega) ov 0 (-1) cl bl tn ct bs la hz ids mp en seen till pk pbl pbw pe pt hen
      by_cases hcx : op = 1 ∧ fX10_isCluster Fu mt (nI k) (nI e) = some 1
      · obtain ⟨x1, x2⟩ := hcx
        rcases clus_eq hm hT hk he with ⟨y1, y2⟩ | ⟨y1, -⟩
        · refine ev_close (n := n1) (step := step) (bs := bs) (la := la) (hz := hz) (rid := rid) (rfr := rfr) (rto := rto) (run := run) (rov := rov) (sz := sz) hi8 hids hmp hLV hHT hNI (by omega) (by unfold Fu at h3; omega) h4 h2 (fun z => by rw [x1] at z; exact absurd z (by decide)) hcl hbl hct hrl (fun o9 ho => ?_) (ecl4 rm rtot cls bls num ctm has rid rfr rto run rov rs rt rby sz (Or.inr ⟨x1, hnk, x2⟩))
          rw [hEl]
          unfold fX1_readElement
          rw [hen, y2, Option.bind_some]
          dsimp only
          rw [if_neg (show ¬ (524531317 : Int32) = -1 by decide), htill, if_neg (by rw [x1]; decide), if_pos (rfl : (524531317 : Int32) = 524531317), ho, Option.bind_some, Option.bind_some]
        · rw [x2] at y1; cases y1
      · have ho : op = 0 ∨ fX10_isCluster Fu mt (nI k) (nI e) = some 0 := by
          rcases hop with z | z
          · exact Or.inl z
          · rcases clus_eq hm hT hk he with ⟨y1, -⟩ | ⟨y1, -⟩
            · exact absurd ⟨z, y1⟩ hcx
            · exact Or.inr y1
        have htl : till 0 = 0 ∨ ∀ hf hp, ∃ v f p, fX1_readId Fu hf hp (nI T) 1501 fw (nI k) (nI e) = some (v, f, p) ∧ ¬ v = 524531317 := by
          rcases hop with z | z
          · exact Or.inl (htill.trans z)
          · rcases clus_eq hm hT hk he with ⟨y1, -⟩ | ⟨-, y2⟩
            · exact absurd ⟨z, y1⟩ hcx
            · exact Or.inr y2
        rw [hEl, est4 rm rtot cls bls num ctm has rid rfr rto run rov rs rt rby sz hnk ho]
        rcases elem_step hm hT hk he hi8 hids hen hLV htl 0 (-1) (-1) cl bl (nI (0 + 1)) tn ct bs la hz mp pk pbl ov pbw pe pt rid rfr rto run (fun b f fa rid rfr rto run => fX10_elements_v4_b87 Fu mt (fX10_elements_v4_b6 Fu mt pl (nI e) (nI i) op n2) b met (nI k) rs rt rby sz rm rtot f fa cls bls num ctm has rid rfr rto run rov) (fun z f fa rid rfr rto run => some (z, rm, rtot, f, fa, cls, bls, num, ctm, has, rid, rfr, rto, run, rov, rs, rt, rby, sz)) with ⟨f, X0, id', fr', to', un', f0, w1, w2, w3, w4, w5⟩ | ⟨r, q, tt, bs', un, hr, ha, hs, g1, g2, g3, g4, w1, w2⟩
        · left
          obtain ⟨n', rfl⟩ := ar_1 h3 h4 h2 he hT
          obtain ⟨X, x1, x2, x3⟩ := CL_bad T fw af ap n' (step + 1) X0 w2
          rw [w1, w5, Option.bind_some, x1]
          exact ⟨f, nI k, X, _, f0, rfl, x2.trans w3, x3.trans w4, rfl, rfl, rfl, rfl⟩
        · rw [w1, w2, ek4 hr]
          have hLV' := LV_step hr ha hLV
          have hup : (upd seen 0 (seen 0 ||| ((1 : Int32) <<< (nI r &&& 31)))) 0 = seen 0 ||| ((1 : Int32) <<< (nI r &&& 31)) := pk_us
          have hAG : AG 0 ids mp en seen till ids mp en (upd seen 0 (seen 0 ||| ((1 : Int32) <<< (nI r &&& 31)))) till := fun j hj => ⟨rfl, rfl, rfl, pk_un (Nat.ne_of_lt hj), rfl⟩
          rcases rT r hr with hz0 | hM | hL
          · subst hz0
            rw [void_c hT g2 (Nat.le_trans g3 he), Option.bind_some, ev04]
            refine EVC_mono (k2 := tt) (ih tt (step + 1) n1 n2 cl bl tn ct bs' la hz ids mp en (upd seen 0 (seen 0 ||| ((1 : Int32) <<< (nI 0 &&& 31)))) till pk pbl pbw pe pt (metN 0 met) rm rtot cls bls num ctm has (idr 0) (nI q) (nI tt) un rov rs rt rby sz (ar_e h1 g1 g2) g3 (ar_n h3) (ar_t h4 g1 g2) (Nat.lt_of_succ_lt_succ h5) hids hmp hen htill (by rw [hup]; exact hLV') (HT_step hr ha hHT (fun _ => rfl)) (by rw [hup]; exact NI_step hr hNI (fun z => z) (fun z => by rcases z with z | z | z <;> exact absurd z (by decide))) hcl hbl hct hrl) (ar_k g1 g2) (fun z => z) (fun _ => rfl) hAG
          · obtain ⟨p1, p2, p3, p4, p5, p6, p7, p8, p9⟩ := mP hM
            obtain ⟨m1, m2, m3, m4, m5, m6⟩ := mT r hr hM
            have hpar : par r = i := ha.resolve_left p1
            have hu : un = 0 ∨ un = 1 := by
              rcases g4 with ⟨-, z, -⟩ | ⟨z, -⟩
              · exact Or.inr z
              · exact Or.inl z
            obtain ⟨till', t1, t2, t3⟩ := open_c (T := T) (k := k) (q := q) (to := tt) (d := 0) (r := r) (fw := fw) (by decide) hr hM tn ct bs' pk pbl pbw pe pt 0 (-1) cl bl la ov hz ids mp en (upd seen 0 (seen 0 ||| ((1 : Int32) <<< (nI r &&& 31)))) till
            have hopn : (if r = 21 ∧ bs' = -1 then (1 : Int32) else 0) = if r = 21 ∧ un = 1 then 1 else 0 := by
              rcases g4 with ⟨z1, z2, -⟩ | ⟨z1, z2⟩
              · by_cases c : r = 21
                · rw [if_pos ⟨c, z1⟩, if_pos ⟨c, z2⟩]
                · rw [if_neg (fun z => c z.1), if_neg (fun z => c z.1)]
              · rw [if_neg (fun z => z2 z.2), if_neg (fun z => by rw [z1] at z; exact absurd z.2 (by decide))]
            rw [hopn] at t1
            rw [t3, Option.bind_some, em4 hr hM hu]
            obtain ⟨opn, hopd⟩ : ∃ x : Int32, x = if r = 21 ∧ un = 1 then 1 else 0 := ⟨_, rfl⟩
            rw [← hopd] at t1 ⊢
            have hopn01 : opn = 0 ∨ opn = 1 := by
              rw [hopd]
              by_cases c : r = 21 ∧ un = 1
              · rw [if_pos c]; exact Or.inr rfl
              · rw [if_neg c]; exact Or.inl rfl
            have hlv6 : i = 3 ∨ i = 4 ∨ i = 6 ∨ i = 1 ∨ i = 2 ∨ i = 0 := Or.inr (Or.inr (Or.inr (Or.inr (Or.inr hlv))))
            have hLVc : srt r = 1 ∨ srt r = 2 := ch4 hlv hpar hM
            have hHc : HT (srt r) 0 (if r = 21 then 0 else has) := by
              intro z
              rw [if_pos (p2 z), b_0]
              exact ⟨Or.inl rfl, fun y => absurd y (by decide), fun y => by cases y⟩
            have hNc : NI (srt r) 0 tn num := by
              intro z
              rcases z with z | z | ⟨-, z⟩ | ⟨-, z⟩ | ⟨-, z⟩
              · have h21 := p2 z
                rw [h21] at hs hpar
                exact hNI (Or.inr (Or.inr (Or.inr (Or.inr ⟨hpar.symm, hs⟩))))
              · have h24 := p3 z
                rw [h24] at hpar
                exact hNI (Or.inl hpar.symm)
              · rw [b_0] at z; cases z
              · rw [b_0] at z; cases z
              · rw [b_0] at z; cases z
            have hCc : (srt r = 6 ∨ srt r = 7) → CTR (if r = 21 then -1 else ct) ctm (if r = 21 then 0 else has) := by
              intro z
              by_cases c : r = 21
              · rw [if_pos c, if_pos c]; exact Or.inl ⟨rfl, rfl⟩
              · rw [if_neg c, if_neg c]
                have h24 : r = 24 := p3 (z.resolve_left (fun y => c (p2 y)))
                rw [h24] at hpar
                exact hct (Or.inl hpar.symm)
            have hclc : (if r = 21 then cl + 1 else cl) = (if r = 21 then cls + 1 else cls) := by rw [hcl]
            obtain ⟨hC, hCd⟩ : ∃ x : Int32, x = if r = 21 then 0 else has := ⟨_, rfl⟩
            obtain ⟨cC, cCd⟩ : ∃ x : Int32, x = if r = 21 then cls + 1 else cls := ⟨_, rfl⟩
            rw [← hCd] at hHc hCc ⊢
            rw [← cCd] at hclc ⊢
            have hch := ev3 hm hT af ap ov tt (srt r) opn (nI k) (Nat.le_trans g3 he) hLVc hopn01 (tt - q) q (step + 1) n1 Fu (if r = 21 then cl + 1 else cl) bl tn (if r = 21 then -1 else ct) bs' la hz (upd ids (0 + 1) (idr r)) (upd mp (0 + 1) (nI k)) (upd en (0 + 1) (nI tt)) (upd (upd seen 0 (seen 0 ||| ((1 : Int32) <<< (nI r &&& 31)))) (0 + 1) 0) till' pk pbl pbw pe pt 0 rm rtot cC bls num ctm hC (idr r) (nI q) (nI tt) un rov rs rt rby sz (Nat.le_refl _) g2 (ar_n h3) (ar_s h4 g1) (ar_f g3 he hT) (pk_us.trans m2) pk_us pk_us t1 (by rw [show (upd (upd seen 0 (seen 0 ||| ((1 : Int32) <<< (nI r &&& 31)))) (0 + 1) 0) 1 = 0 from pk_us]; exact LV_0 _) hHc (by rw [show (upd (upd seen 0 (seen 0 ||| ((1 : Int32) <<< (nI r &&& 31)))) (0 + 1) 0) 1 = 0 from pk_us]; exact hNc) hclc hbl hCc hrl
            unfold fX10_elements_v4_b191 fX10_elements_v3 fX10_elements_v4_b225
            rcases hch with ⟨f, fp, X, Y, f0, y1, y2, y3, y4, y5, y6, y7⟩ | ⟨k', step', n1', cl', bl', tn', ct', bs2, la', hz', ids', mp', en', seen', till2, pk', pbl', pbw', pe', pt', rm', rtot', cls', bls', num', ctm', has', rid', rfr', rto', run', rs', rt', rby', sz', q1, q2, q3, q4, q5, q6, q7, q8, q9, q10, q11, q12, q13, q14, q15⟩
            · left
              have y1' : CL T fw af ap n1 (step + 1) (nI q, 0, -1, (if r = 21 then cl + 1 else cl), bl, nI (0 + 2), tn, (if r = 21 then -1 else ct), bs', la, hz, upd ids (0 + 1) (idr r), upd mp (0 + 1) (nI k), upd en (0 + 1) (nI tt), upd (upd seen 0 (seen 0 ||| ((1 : Int32) <<< (nI r &&& 31)))) (0 + 1) 0, till', pk, pbl, ov, pbw, pe, pt) = some X := y1
              have y4' : fX10_elements_v3_b6 Fu mt (nI k) (nI tt) (nI (srt r)) opn Fu (nI q) 0 rm rtot 0 (-1) cC bls num ctm hC (idr r) (nI q) (nI tt) un rov rs rt rby sz = some Y := y4
              rw [y1', y4', Option.bind_some, if_pos y5]
              exact ⟨f, fp, X, _, f0, rfl, y2, y3, rfl, rfl, y6, y7⟩
            · have q1' : CL T fw af ap n1 (step + 1) (nI q, 0, -1, (if r = 21 then cl + 1 else cl), bl, nI (0 + 2), tn, (if r = 21 then -1 else ct), bs', la, hz, upd ids (0 + 1) (idr r), upd mp (0 + 1) (nI k), upd en (0 + 1) (nI tt), upd (upd seen 0 (seen 0 ||| ((1 : Int32) <<< (nI r &&& 31)))) (0 + 1) 0, till', pk, pbl, ov, pbw, pe, pt) = _ := q1
              have q2' : fX10_elements_v3_b6 Fu mt (nI k) (nI tt) (nI (srt r)) opn Fu (nI q) 0 rm rtot 0 (-1) cC bls num ctm hC (idr r) (nI q) (nI tt) un rov rs rt rby sz = _ := q2
              rw [q1', q2', Option.bind_some]
              dsimp only
              rw [if_neg (show ¬ (1 : Int32) = 0 by decide)]
              have hnext : (if opn = 0 then ((fX10_elements_v4_b6 Fu mt pl (nI e) (nI i) op n2) (nI tt) (metN r met) rm' rtot' 0 (-1) cls' bls' num' ctm' has' rid' rfr' rto' run' (nI k') rs' rt' rby' sz') else ((fX10_elements_v4_b6 Fu mt pl (nI e) (nI i) op n2) (nI k') (metN r met) rm' rtot' 0 (-1) cls' bls' num' ctm' has' rid' rfr' rto' run' (nI k') rs' rt' rby' sz')) = (fX10_elements_v4_b6 Fu mt pl (nI e) (nI i) op n2) (nI k') (metN r met) rm' rtot' 0 (-1) cls' bls' num' ctm' has' rid' rfr' rto' run' (nI k') rs' rt' rby' sz' := by
                by_cases c : opn = 0
                · rw [if_pos c, q5 c]
                · rw [if_neg c]
              rw [hnext]
              obtain ⟨a1, a2, a3, a4, a5⟩ := q8 0 (by decide)
              rw [pk_un (by decide)] at a1 a2 a3 a4
              rw [hup] at a4
              rw [t2 0 (by decide)] at a5
              have hAG2 : AG 0 ids mp en seen till ids' mp' en' seen' till2 := by
                intro j hj
                obtain ⟨b1, b2, b3, b4, b5⟩ := q8 j (Nat.lt_succ_of_lt hj)
                rw [pk_un (Nat.ne_of_lt (Nat.lt_succ_of_lt hj))] at b1 b2 b3 b4
                rw [pk_un (Nat.ne_of_lt hj)] at b4
                rw [t2 j (Nat.lt_succ_of_lt hj)] at b5
                exact ⟨b1, b2, b3, b4, b5⟩
              have hNUM : (r = 16 ∨ r = 15 ∨ r = 14) → NUM tn' num' := by
                rintro (z | z | z)
                · exact absurd z p6
                · exact q14 (Or.inr (p4 z))
                · exact q14 (Or.inl (p5 z))
              have hH6 : i = 6 → has' = if r = 22 then 1 else has := by
                intro z
                rw [z] at hpar
                have h24 := p9 hpar
                rw [if_neg p7, q15 (by rw [h24]; rfl), hCd, if_neg (by rw [h24]; decide)]
              have hC6 : (i = 6 ∨ i = 7) → CTR ct' ctm' has' := by
                intro z
                have z6 : i = 6 := ar_6 hlv6 z
                rw [z6] at hpar
                have h24 := p9 hpar
                exact q11 (Or.inr (by rw [h24]; rfl))
              exact EVC_mono (k2 := k') (ih k' step' n1' n2 cl' bl' tn' ct' bs2 la' hz' ids' mp' en' seen' till2 pk' pbl' pbw' pe' pt' (metN r met) rm' rtot' cls' bls' num' ctm' has' rid' rfr' rto' run' (nI k') rs' rt' rby' sz' (ar_e h1 g1 q3) (Nat.le_trans q4 g3) q6 q7 (Nat.lt_of_succ_lt_succ h5) (a1.trans hids) (a2.trans hmp) (a3.trans hen) (a5.trans htill) (by rw [a4]; exact hLV') (HT_step hr ha hHT hH6) (by rw [a4]; exact NI_step hr hNI q13 hNUM) q9 q10 hC6 q12) (ar_k g1 q3) q13 (fun z => (ar_7 hlv6 z).elim) hAG2
          · obtain ⟨p1, p2, p3, p4, p5, p6⟩ := lP hr hL
            have hpar : par r = i := ha.resolve_left p3
            rw [el4 hr hL]
            have hnn : (r = 23 ∨ r = 25) → (i = 6 ∨ i = 7) ∧ NUM tn num := by
              rintro (z | z)
              · exact ⟨Or.inl (hpar.symm.trans (p4 z)), hNI (Or.inl (hpar.symm.trans (p4 z)))⟩
              · exact ⟨Or.inr (hpar.symm.trans (p5 z)), hNI (Or.inr (Or.inl (hpar.symm.trans (p5 z))))⟩
            rcases leaf_eq (k := k) hm hT g2 (Nat.le_trans g3 he) hct hrl 0 (-1) (-1) cl bl bls la ov (nI (0 + 1)) bs' hz sz ids mp en (upd seen 0 (seen 0 ||| ((1 : Int32) <<< (nI r &&& 31)))) till hr hL hnn with ⟨f, X0, Z, f0, y1, y2, y3, y4, y5, y6, y7, y8⟩ | ⟨bl', tn', ct', la', hz', pk', pbl', pbw', pe', pt', rm', rtot', bls', num', ctm', has', rs', rt', rby', sz', y1, y2, y3, y4, y5, y6, y7, y8⟩
            · left
              obtain ⟨n', rfl⟩ := ar_1 h3 h4 h2 he hT
              obtain ⟨X, x1, x2, x3⟩ := CL_bad T fw af ap n' (step + 1) X0 y2
              rw [y1, y5, Option.bind_some, Option.bind_some, x1, if_pos y6]
              exact ⟨f, nI k, X, _, f0, rfl, x2.trans y3, x3.trans y4, rfl, rfl, y7, y8⟩
            · rw [y1, y2, Option.bind_some, Option.bind_some]
              dsimp only
              rw [if_neg (show ¬ (1 : Int32) = 0 by decide)]
              have hNUM : (r = 16 ∨ r = 15 ∨ r = 14) → NUM tn' num' := by
                rintro (z | z | z)
                · exact y7 z
                · exact absurd z p1
                · exact absurd z p2
              exact EVC_mono (k2 := tt) (ih tt (step + 1) n1 n2 cl bl' tn' ct' bs' la' hz' ids mp en (upd seen 0 (seen 0 ||| ((1 : Int32) <<< (nI r &&& 31)))) till pk' pbl' pbw' pe' pt' (metN r met) rm' rtot' cls bls' num' ctm' has' (idr r) (nI q) (nI tt) un rov rs' rt' rby' sz' (ar_e h1 g1 g2) g3 (ar_n h3) (ar_t h4 g1 g2) (Nat.lt_of_succ_lt_succ h5) hids hmp hen htill (by rw [hup]; exact hLV') (HT_step hr ha hHT (fun _ => y8)) (by rw [hup]; exact NI_step hr hNI y6 hNUM) hcl (y5 hbl) y4 y3) (ar_k g1 g2) y6 (fun z => by rw [y8, if_neg (p6 (hpar.trans z))]) hAG
    · exact ev_close (n := n1) (step := step) (bs := bs) (la := la) (hz := hz) (rid := rid) (rfr := rfr) (rto := rto) (run := run) (rov := rov) (sz := sz) hi8 hids hmp hLV hHT hNI (by omega) (by unfold Fu at h3; omega) h4 h2 (fun _ => by omega) hcl hbl hct hrl (fun o9 ho => by
        rw [CL_close (e := e) (show step < 12000 by omega) (by omega) (by omega) (by omega) ov 0 (-1) cl bl tn ct bs la hz ids mp en seen till pk pbl pbw pe pt hen, ho, Option.bind_some]) (ecl4 rm rtot cls bls num ctm has rid rfr rto run rov rs rt rby sz (Or.inl (nI_le (by omega) (by omega))))
