-- levels, the calls of depth 1
theorem ecl1 {mt : Nat → Int32} {e k i n : Nat} {op pl met : Int32} (rm rtot cls bls num : Int32) (ctm : Int64) (has rid rfr rto run rov : Int32) (rs : Nat → Int32) (rt : Nat → Int64) (rby sz : Nat → Int32) (hx : nI e ≤ nI k ∨ (op = 1 ∧ ¬ nI e ≤ nI k ∧ fX10_isCluster Fu mt (nI k) (nI e) = some 1)) : fX10_elements_v1_b6 Fu cls rov mt pl (nI e) (nI i) op (n + 1) (nI k) met rm rtot 0 (-1) bls num ctm has rid rfr rto run rs rt rby sz = (fX10_has Fu 0 (-1) has pl (nI i) met).bind fun o1 => if isb o1.1 = true then some (o1.1, rm, rtot, o1.2.1, o1.2.2, cls, bls, num, ctm, has, rid, rfr, rto, run, nI k, rs, rt, rby, sz) else none := by
  rw [fX10_elements_v1_b6]
  rcases hx with h | ⟨h1, h2, h3⟩
  · rw [if_pos h]; rfl
  · rw [if_neg h2, if_neg (by rw [h1]; decide), h3, Option.bind_some, if_neg (show ¬ (1 : Int32) = 0 by decide)]; rfl
theorem est1 {mt : Nat → Int32} {e k i n : Nat} {op pl met : Int32} (rm rtot cls bls num : Int32) (ctm : Int64) (has rid rfr rto run rov : Int32) (rs : Nat → Int32) (rt : Nat → Int64) (rby sz : Nat → Int32) (hx : ¬ nI e ≤ nI k) (ho : op = 0 ∨ fX10_isCluster Fu mt (nI k) (nI e) = some 0) : fX10_elements_v1_b6 Fu cls rov mt pl (nI e) (nI i) op (n + 1) (nI k) met rm rtot 0 (-1) bls num ctm has rid rfr rto run rs rt rby sz = pre30 0 (-1) rid rfr rto run mt (nI k) (nI e) (nI i) met (fun b f fa rid rfr rto run => fX10_elements_v1_b87 Fu cls rov mt (fX10_elements_v1_b6 Fu cls rov mt pl (nI e) (nI i) op n) b met (nI k) rs rt rby sz rm rtot f fa bls num ctm has rid rfr rto run) (fun z f fa rid rfr rto run => some (z, rm, rtot, f, fa, cls, bls, num, ctm, has, rid, rfr, rto, run, rov, rs, rt, rby, sz)) := by
  rw [fX10_elements_v1_b6, if_neg hx]
  by_cases c : op = 0
  · rw [if_pos c]; rfl
  · rw [if_neg c, ho.resolve_left c, Option.bind_some, if_pos (rfl : (0 : Int32) = 0)]; rfl
theorem ek1 {mt : Nat → Int32} {r : Nat} (hr : r < 27) (rc : Int32 → Int32 → Int32 → Int32 → Int32 → Int32 → Int32 → Int32 → Int64 → Int32 → Int32 → Int32 → Int32 → Int32 → (Nat → Int32) → (Nat → Int64) → (Nat → Int32) → (Nat → Int32) → Option RT) (rm rtot cls bls num : Int32) (ctm : Int64) (has rov : Int32) (rs : Nat → Int32) (rt : Nat → Int64) (rby sz : Nat → Int32) (met k f fa fr to un : Int32) : fX10_elements_v1_b87 Fu cls rov mt rc (bitv r) met k rs rt rby sz rm rtot f fa bls num ctm has (idr r) fr to un = fX10_elements_v1_b109 Fu cls rov mt rc (metN r met) k rm rtot f fa bls num ctm has (idr r) fr to un rs rt rby sz := by
  unfold fX10_elements_v1_b87 metN
  simp only [nm_eq]
  by_cases c : r = 21
  · rw [if_pos ((id21i r hr).mpr c), if_pos c]
  · rw [if_neg (fun h => c ((id21i r hr).mp h)), if_neg c]
theorem ev01 {mt : Nat → Int32} (rc : Int32 → Int32 → Int32 → Int32 → Int32 → Int32 → Int32 → Int32 → Int64 → Int32 → Int32 → Int32 → Int32 → Int32 → (Nat → Int32) → (Nat → Int64) → (Nat → Int32) → (Nat → Int32) → Option RT) (rm rtot cls bls num : Int32) (ctm : Int64) (has rov : Int32) (rs : Nat → Int32) (rt : Nat → Int64) (rby sz : Nat → Int32) (met k f fa fr to un : Int32) : fX10_elements_v1_b109 Fu cls rov mt rc met k rm rtot f fa bls num ctm has (idr 0) fr to un rs rt rby sz = rc to met rm rtot f fa bls num ctm has (idr 0) fr to un rs rt rby sz := by
  unfold fX10_elements_v1_b109 fX10_elements_v1_b225
  rw [if_pos id0v]
theorem el1 {mt : Nat → Int32} {r : Nat} (hr : r < 27) (hl : isL r = true) (rc : Int32 → Int32 → Int32 → Int32 → Int32 → Int32 → Int32 → Int32 → Int64 → Int32 → Int32 → Int32 → Int32 → Int32 → (Nat → Int32) → (Nat → Int64) → (Nat → Int32) → (Nat → Int32) → Option RT) (rm rtot cls bls num : Int32) (ctm : Int64) (has rov : Int32) (rs : Nat → Int32) (rt : Nat → Int64) (rby sz : Nat → Int32) (met k f fa fr to un : Int32) : fX10_elements_v1_b109 Fu cls rov mt rc met k rm rtot f fa bls num ctm has (idr r) fr to un rs rt rby sz = (fX10_plain Fu rm rtot f fa bls num ctm has (idr r) fr to mt rs rt rby sz k).bind fun o6 => if o6.1 = 0 then (some (0, o6.2.1, o6.2.2.1, o6.2.2.2.1, o6.2.2.2.2.1, cls, o6.2.2.2.2.2.1, o6.2.2.2.2.2.2.1, o6.2.2.2.2.2.2.2.1, o6.2.2.2.2.2.2.2.2.1, idr r, fr, to, un, rov, o6.2.2.2.2.2.2.2.2.2.1, o6.2.2.2.2.2.2.2.2.2.2.1, o6.2.2.2.2.2.2.2.2.2.2.2.1, o6.2.2.2.2.2.2.2.2.2.2.2.2)) else (rc to met o6.2.1 o6.2.2.1 o6.2.2.2.1 o6.2.2.2.2.1 o6.2.2.2.2.2.1 o6.2.2.2.2.2.2.1 o6.2.2.2.2.2.2.2.1 o6.2.2.2.2.2.2.2.2.1 (idr r) fr to un o6.2.2.2.2.2.2.2.2.2.1 o6.2.2.2.2.2.2.2.2.2.2.1 o6.2.2.2.2.2.2.2.2.2.2.2.1 o6.2.2.2.2.2.2.2.2.2.2.2.2) := by
  obtain ⟨l1, l2⟩ := lT r hr hl
  unfold fX10_elements_v1_b109 fX10_elements_v1_b225
  rw [if_neg l2, l1, Option.bind_some, if_pos (rfl : (-1 : Int32) = -1)]
theorem ev1 {T : Nat} {fw mt : Nat → Int32} (hm : ∀ k, k < T → mt k &&& 255 = nI (bw fw k)) (hT : T ≤ 6000) (af ap : Nat) (ov : Int32) : ∀ (e i : Nat) (op pl : Int32), e ≤ T → (i = 5 ∨ i = 7) → (op = 0 ∨ op = 1) → ∀ (m k step n1 n2 : Nat) (cl bl : Int32) (tn ct bs : Int64) (la : Int32) (hz ids mp en seen till : Nat → Int32) (pk pbl : Int32) (pbw pe : Nat → Int32) (pt : Nat → Int64) (met : Int32) (rm rtot cls bls num : Int32) (ctm : Int64) (has rid rfr rto run rov : Int32) (rs : Nat → Int32) (rt : Nat → Int64) (rby sz : Nat → Int32), e - k ≤ m → k ≤ e → n1 + step = Fu → step + (3 + 1) ≤ k + 1 → m < n2 → ids 3 = idl i → mp 3 = pl → en 3 = nI e → till 3 = op → LV i (seen 3) met → HT i met has → NI i (seen 3) tn num → cl = cls → bl = bls → ((i = 6 ∨ i = 7) → CTR ct ctm has) → RLi pk pbl pbw pe pt rm rtot rs rt rby → EVC T fw af ap ov 3 e k i op (CL T fw af ap n1 step (nI k, 0, -1, cl, bl, nI (3 + 1), tn, ct, bs, la, hz, ids, mp, en, seen, till, pk, pbl, ov, pbw, pe, pt)) (fX10_elements_v1_b6 Fu cls rov mt pl (nI e) (nI i) op n2 (nI k) met rm rtot 0 (-1) bls num ctm has rid rfr rto run rs rt rby sz) tn num has ids mp en seen till := by
  intro e i op pl he hlv hop m
  have hi8 : i < 8 := by omega
  induction m with
  | zero =>
    intro k step n1 n2 cl bl tn ct bs la hz ids mp en seen till pk pbl pbw pe pt met rm rtot cls bls num ctm has rid rfr rto run rov rs rt rby sz h1 h2 h3 h4 h5 hids hmp hen htill hLV hHT hNI hcl hbl hct hrl
    obtain ⟨n1, rfl⟩ : ∃ n', n1 = n' + 1 := ⟨n1 - 1, by unfold Fu at h3; omega⟩
    obtain ⟨n2, rfl⟩ : ∃ n', n2 = n' + 1 := ⟨n2 - 1, by omega⟩
    exact ev_close (n := n1) (step := step) (bs := bs) (la := la) (hz := hz) (rid := rid) (rfr := rfr) (rto := rto) (run := run) (rov := rov) (sz := sz) hi8 hids hmp hLV hHT hNI (by omega) (by unfold Fu at h3; omega) h4 h2 (fun _ => by omega) hcl hbl hct hrl (fun o9 ho => by
        rw [CL_close (e := e) (show step < 12000 by omega) (by omega) (by omega) (by omega) ov 0 (-1) cl bl tn ct bs la hz ids mp en seen till pk pbl pbw pe pt hen, ho, Option.bind_some]) (ecl1 rm rtot cls bls num ctm has rid rfr rto run rov rs rt rby sz (Or.inl (nI_le (by omega) (by omega))))
  | succ m ih =>
    intro k step n1 n2 cl bl tn ct bs la hz ids mp en seen till pk pbl pbw pe pt met rm rtot cls bls num ctm has rid rfr rto run rov rs rt rby sz h1 h2 h3 h4 h5 hids hmp hen htill hLV hHT hNI hcl hbl hct hrl
    obtain ⟨n1, rfl⟩ : ∃ n', n1 = n' + 1 := ⟨n1 - 1, by unfold Fu at h3; omega⟩
    obtain ⟨n2, rfl⟩ : ∃ n', n2 = n' + 1 := ⟨n2 - 1, by omega⟩
    rcases Nat.lt_or_ge k e with hk | hk
    · have hnk : ¬ nI e ≤ nI k := nI_ge hk (by omega)
      have hEl := CL_elem (T := T) (fw := fw) (af := af) (ap := ap) (n := n1) (d := 3) (show step < 12000 by omega) hk (show e < 2 ^ 31 by omega) (by omega) ov 0 (-1) cl bl tn ct bs la hz ids mp en seen till pk pbl pbw pe pt hen
      by_cases hcx : op = 1 ∧ fX10_isCluster Fu mt (nI k) (nI e) = some 1
      · obtain ⟨x1, x2⟩ := hcx
        rcases clus_eq hm hT hk he with ⟨y1, y2⟩ | ⟨y1, -⟩
        · refine ev_close (n := n1) (step := step) (bs := bs) (la := la) (hz := hz) (rid := rid) (rfr := rfr) (rto := rto) (run := run) (rov := rov) (sz := sz) hi8 hids hmp hLV hHT hNI (by omega) (by unfold Fu at h3; omega) h4 h2 (fun z => by rw [x1] at z; exact absurd z (by decide)) hcl hbl hct hrl (fun o9 ho => ?_) (ecl1 rm rtot cls bls num ctm has rid rfr rto run rov rs rt rby sz (Or.inr ⟨x1, hnk, x2⟩))
          rw [hEl]
          unfold fX1_readElement
          rw [hen, y2, Option.bind_some]
          dsimp only
          rw [if_neg (show ¬ (524531317 : Int32) = -1 by decide), htill, if_neg (by rw [x1]; decide), if_pos (rfl : (524531317 : Int32) = 524531317), ho, Option.bind_some, Option.bind_some]
        · rw [x2] at y1; cases y1
      · have ho : op = 0 ∨ fX10_isCluster Fu mt (nI k) (nI e) = some 0 := by
          rcases hop with z | z
          · exact Or.inl z
          · rcases clus_eq hm hT hk he with ⟨y1, -⟩ | ⟨y1, -⟩
            · exact absurd ⟨z, y1⟩ hcx
            · exact Or.inr y1
        have htl : till 3 = 0 ∨ ∀ hf hp, ∃ v f p, fX1_readId Fu hf hp (nI T) 1501 fw (nI k) (nI e) = some (v, f, p) ∧ ¬ v = 524531317 := by
          rcases hop with z | z
          · exact Or.inl (htill.trans z)
          · rcases clus_eq hm hT hk he with ⟨y1, -⟩ | ⟨-, y2⟩
            · exact absurd ⟨z, y1⟩ hcx
            · exact Or.inr y2
        rw [hEl, est1 rm rtot cls bls num ctm has rid rfr rto run rov rs rt rby sz hnk ho]
        rcases elem_step hm hT hk he hi8 hids hen hLV htl 0 (-1) (-1) cl bl (nI (3 + 1)) tn ct bs la hz mp pk pbl ov pbw pe pt rid rfr rto run (fun b f fa rid rfr rto run => fX10_elements_v1_b87 Fu cls rov mt (fX10_elements_v1_b6 Fu cls rov mt pl (nI e) (nI i) op n2) b met (nI k) rs rt rby sz rm rtot f fa bls num ctm has rid rfr rto run) (fun z f fa rid rfr rto run => some (z, rm, rtot, f, fa, cls, bls, num, ctm, has, rid, rfr, rto, run, rov, rs, rt, rby, sz)) with ⟨f, X0, id', fr', to', un', f0, w1, w2, w3, w4, w5⟩ | ⟨r, q, tt, bs', un, hr, ha, hs, g1, g2, g3, g4, w1, w2⟩
        · left
          obtain ⟨n', rfl⟩ := ar_1 h3 h4 h2 he hT
          obtain ⟨X, x1, x2, x3⟩ := CL_bad T fw af ap n' (step + 1) X0 w2
          rw [w1, w5, Option.bind_some, x1]
          exact ⟨f, nI k, X, _, f0, rfl, x2.trans w3, x3.trans w4, rfl, rfl, rfl, rfl⟩
        · rw [w1, w2, ek1 hr]
          have hLV' := LV_step hr ha hLV
          have hup : (upd seen 3 (seen 3 ||| ((1 : Int32) <<< (nI r &&& 31)))) 3 = seen 3 ||| ((1 : Int32) <<< (nI r &&& 31)) := pk_us
          have hAG : AG 3 ids mp en seen till ids mp en (upd seen 3 (seen 3 ||| ((1 : Int32) <<< (nI r &&& 31)))) till := fun j hj => ⟨rfl, rfl, rfl, pk_un (Nat.ne_of_lt hj), rfl⟩
          rcases rT r hr with hz0 | hM | hL
          · subst hz0
            rw [void_c hT g2 (Nat.le_trans g3 he), Option.bind_some, ev01]
            refine EVC_mono (k2 := tt) (ih tt (step + 1) n1 n2 cl bl tn ct bs' la hz ids mp en (upd seen 3 (seen 3 ||| ((1 : Int32) <<< (nI 0 &&& 31)))) till pk pbl pbw pe pt (metN 0 met) rm rtot cls bls num ctm has (idr 0) (nI q) (nI tt) un rov rs rt rby sz (ar_e h1 g1 g2) g3 (ar_n h3) (ar_t h4 g1 g2) (Nat.lt_of_succ_lt_succ h5) hids hmp hen htill (by rw [hup]; exact hLV') (HT_step hr ha hHT (fun _ => rfl)) (by rw [hup]; exact NI_step hr hNI (fun z => z) (fun z => by rcases z with z | z | z <;> exact absurd z (by decide))) hcl hbl hct hrl) (ar_k g1 g2) (fun z => z) (fun _ => rfl) hAG
          · exact (no57 hlv ha hM).elim
          · obtain ⟨p1, p2, p3, p4, p5, p6⟩ := lP hr hL
            have hpar : par r = i := ha.resolve_left p3
            rw [el1 hr hL]
            have hnn : (r = 23 ∨ r = 25) → (i = 6 ∨ i = 7) ∧ NUM tn num := by
              rintro (z | z)
              · exact ⟨Or.inl (hpar.symm.trans (p4 z)), hNI (Or.inl (hpar.symm.trans (p4 z)))⟩
              · exact ⟨Or.inr (hpar.symm.trans (p5 z)), hNI (Or.inr (Or.inl (hpar.symm.trans (p5 z))))⟩
            rcases leaf_eq (k := k) hm hT g2 (Nat.le_trans g3 he) hct hrl 0 (-1) (-1) cl bl bls la ov (nI (3 + 1)) bs' hz sz ids mp en (upd seen 3 (seen 3 ||| ((1 : Int32) <<< (nI r &&& 31)))) till hr hL hnn with ⟨f, X0, Z, f0, y1, y2, y3, y4, y5, y6, y7, y8⟩ | ⟨bl', tn', ct', la', hz', pk', pbl', pbw', pe', pt', rm', rtot', bls', num', ctm', has', rs', rt', rby', sz', y1, y2, y3, y4, y5, y6, y7, y8⟩
            · left
              obtain ⟨n', rfl⟩ := ar_1 h3 h4 h2 he hT
              obtain ⟨X, x1, x2, x3⟩ := CL_bad T fw af ap n' (step + 1) X0 y2
              rw [y1, y5, Option.bind_some, Option.bind_some, x1, if_pos y6]
              exact ⟨f, nI k, X, _, f0, rfl, x2.trans y3, x3.trans y4, rfl, rfl, y7, y8⟩
            · rw [y1, y2, Option.bind_some, Option.bind_some]
              dsimp only
              rw [if_neg (show ¬ (1 : Int32) = 0 by decide)]
              have hNUM : (r = 16 ∨ r = 15 ∨ r = 14) → NUM tn' num' := by
                rintro (z | z | z)
                · exact y7 z
                · exact absurd z p1
                · exact absurd z p2
              exact EVC_mono (k2 := tt) (ih tt (step + 1) n1 n2 cl bl' tn' ct' bs' la' hz' ids mp en (upd seen 3 (seen 3 ||| ((1 : Int32) <<< (nI r &&& 31)))) till pk' pbl' pbw' pe' pt' (metN r met) rm' rtot' cls bls' num' ctm' has' (idr r) (nI q) (nI tt) un rov rs' rt' rby' sz' (ar_e h1 g1 g2) g3 (ar_n h3) (ar_t h4 g1 g2) (Nat.lt_of_succ_lt_succ h5) hids hmp hen htill (by rw [hup]; exact hLV') (HT_step hr ha hHT (fun _ => y8)) (by rw [hup]; exact NI_step hr hNI y6 hNUM) hcl (y5 hbl) y4 y3) (ar_k g1 g2) y6 (fun z => by rw [y8, if_neg (p6 (hpar.trans z))]) hAG
    · exact ev_close (n := n1) (step := step) (bs := bs) (la := la) (hz := hz) (rid := rid) (rfr := rfr) (rto := rto) (run := run) (rov := rov) (sz := sz) hi8 hids hmp hLV hHT hNI (by omega) (by unfold Fu at h3; omega) h4 h2 (fun _ => by omega) hcl hbl hct hrl (fun o9 ho => by
        rw [CL_close (e := e) (show step < 12000 by omega) (by omega) (by omega) (by omega) ov 0 (-1) cl bl tn ct bs la hz ids mp en seen till pk pbl pbw pe pt hen, ho, Option.bind_some]) (ecl1 rm rtot cls bls num ctm has rid rfr rto run rov rs rt rby sz (Or.inl (nI_le (by omega) (by omega))))
