-- an element's name, size and standing on both sides
theorem readId_c {T k e : Nat} {fw : Nat → Int32} (hT : T ≤ 6000) (hk : k < e) (he : e ≤ T) (hf hp : Int32) : fX1_readId Fu hf hp (nI T) 1501 fw (nI k) (nI e) = if bw fw k < 16 then some (-1, 2, nI k) else if k + wid (bw fw k) ≤ e then some (nI (hiN (bw fw) k (wid (bw fw k))), hf, hp) else some (-1, 1, nI k) := by
  obtain ⟨w1, w2, w3, w4⟩ := wid_b _ (bw_lt fw k)
  have hb := bw_lt fw k
  unfold fX1_readId fX1_readId_b21 fX1_fail
  rw [at_bw Fu (by omega) (by omega) (by omega) (by omega), Option.bind_some, mw_c _ (bw_lt _ _), Option.bind_some, Option.bind_some]
  by_cases c1 : bw fw k < 16
  · rw [if_pos c1]
    by_cases c9 : wid (bw fw k) = 9
    · rw [if_pos c9, if_pos (rfl : (0 : Int32) = 0)]
    · rw [if_neg c9, if_neg (nI_ne0 (by omega) (by omega)), i4, if_neg (nI_ge (by omega) (by omega))]
  · have hw4 := w3.mp (by omega)
    rw [if_neg c1, if_neg (show ¬ wid (bw fw k) = 9 by omega), if_neg (nI_ne0 (by omega) (by omega)), i4, if_pos (nI_le hw4 (by omega)), pk_sub (by omega)]
    by_cases c2 : k + wid (bw fw k) ≤ e
    · rw [if_pos c2, if_pos (nI_le (by omega) (by omega)), high_bw Fu (by omega) (by omega) (by omega) (by omega) (by omega) (by unfold Fu; omega), Option.bind_some, lN_i]
    · rw [if_neg c2, if_neg (nI_ge (by omega) (by omega)), Option.bind_some]
theorem hiN4 (B : Nat → Nat) (k : Nat) : hiN B k 4 = ((B k * 256 + B (k + 1)) * 256 + B (k + 2)) * 256 + B (k + 3) := by
  show ((((0 * 256 + B (k + 0)) * 256 + B (k + 1)) * 256 + B (k + 2)) * 256 + B (k + 3)) = _
  rw [Nat.add_zero]
  omega
theorem clus_r {T k e : Nat} {mt : Nat → Int32} {B : Nat → Nat} (hB : ∀ k, B k < 256) (hm : ∀ k, k < T → mt k &&& 255 = nI (B k)) (hT : T ≤ 6000) (he : e ≤ T) : fX10_isCluster Fu mt (nI k) (nI e) = some (if k + 4 ≤ e ∧ B k = 31 ∧ B (k + 1) = 67 ∧ B (k + 2) = 182 ∧ B (k + 3) = 117 then 1 else 0) ∨ 6000 < k := by
  rcases Nat.lt_or_ge 6000 k with h6 | h6
  · exact Or.inr h6
  left
  have b0 := hB k
  have b1 := hB (k + 1)
  have b2 := hB (k + 2)
  have b3 := hB (k + 3)
  have n31 : (31 : Int32) = nI 31 := rfl
  have n67 : (67 : Int32) = nI 67 := rfl
  have n182 : (182 : Int32) = nI 182 := rfl
  have n117 : (117 : Int32) = nI 117 := rfl
  unfold fX10_isCluster fX10_isCluster_b59
  rw [if_pos isb0, if_pos isb1, i4, nI_add]
  by_cases c : k + 4 ≤ e
  · rw [if_neg (nI_nlt c (by omega)), rat_B Fu hm hT (show k < T by omega), Option.bind_some, nI_1, rat_B Fu hm hT (show k + 1 < T by omega), Option.bind_some, i2, nI_add, rat_B Fu hm hT (show k + 2 < T by omega), Option.bind_some, i3, nI_add, rat_B Fu hm hT (show k + 3 < T by omega), Option.bind_some, n31, n67, n182, n117]
    by_cases c0 : B k = 31
    · rw [if_pos (by rw [c0])]
      by_cases c1 : B (k + 1) = 67
      · rw [if_pos (by rw [c1])]
        by_cases c2 : B (k + 2) = 182
        · rw [if_pos (by rw [c2])]
          by_cases c3 : B (k + 3) = 117
          · rw [if_pos (by rw [c3]), if_pos ⟨c, c0, c1, c2, c3⟩]
          · rw [if_neg (by rw [nI_eq (by omega) (by omega)]; exact c3), if_neg (fun h => c3 h.2.2.2.2)]
        · rw [if_neg (by rw [nI_eq (by omega) (by omega)]; exact c2), if_neg (fun h => c2 h.2.2.2.1)]
      · rw [if_neg (by rw [nI_eq (by omega) (by omega)]; exact c1), if_neg (fun h => c1 h.2.2.1)]
    · rw [if_neg (by rw [nI_eq (by omega) (by omega)]; exact c0), if_neg (fun h => c0 h.2.1)]
  · rw [if_pos (nI_lt (by omega) (by omega)), if_neg (fun h => c h.1)]
theorem clus_eq {T k e : Nat} {fw mt : Nat → Int32} (hm : ∀ k, k < T → mt k &&& 255 = nI (bw fw k)) (hT : T ≤ 6000) (hk : k < e) (he : e ≤ T) :
    (fX10_isCluster Fu mt (nI k) (nI e) = some 1 ∧ ∀ hf hp, fX1_readId Fu hf hp (nI T) 1501 fw (nI k) (nI e) = some (524531317, hf, hp)) ∨
    (fX10_isCluster Fu mt (nI k) (nI e) = some 0 ∧ ∀ hf hp, ∃ v f p, fX1_readId Fu hf hp (nI T) 1501 fw (nI k) (nI e) = some (v, f, p) ∧ ¬ v = 524531317) := by
  obtain ⟨w1, w2, w3, w4⟩ := wid_b _ (bw_lt fw k)
  have hr := (clus_r (k := k) (bw_lt fw) hm hT he).resolve_right (by omega)
  by_cases c : k + 4 ≤ e ∧ bw fw k = 31 ∧ bw fw (k + 1) = 67 ∧ bw fw (k + 2) = 182 ∧ bw fw (k + 3) = 117
  · left
    obtain ⟨c1, c2, c3, c4, c5⟩ := c
    rw [if_pos ⟨c1, c2, c3, c4, c5⟩] at hr
    refine ⟨hr, fun hf hp => ?_⟩
    have hw : wid (bw fw k) = 4 := by rw [c2]; rfl
    rw [readId_c hT hk he, if_neg (by omega), hw, if_pos c1, hiN4, c2, c3, c4, c5]
    rfl
  · right
    rw [if_neg c] at hr
    refine ⟨hr, fun hf hp => ?_⟩
    rw [readId_c hT hk he]
    by_cases d1 : bw fw k < 16
    · exact ⟨_, _, _, by rw [if_pos d1], by decide⟩
    rw [if_neg d1]
    by_cases d2 : k + wid (bw fw k) ≤ e
    · refine ⟨_, _, _, by rw [if_pos d2], fun h => ?_⟩
      have hw4 := w3.mp (by omega)
      have hlt := hiN_id (bw_lt fw) hw4 (fun h => w4 h)
      have hn : (524531317 : Int32) = nI 524531317 := rfl
      rw [hn] at h
      have h2 := nI_inj (by omega) (by omega) h
      have hp := hiN_lt (bw_lt fw) k (wid (bw fw k))
      have h4 : wid (bw fw k) = 4 := by
        rcases Nat.lt_or_ge (wid (bw fw k)) 4 with q | q
        · have h5 : 256 ^ wid (bw fw k) ≤ 256 ^ 3 := Nat.pow_le_pow_right (by omega) (by omega)
          omega
        · omega
      rw [h4, hiN4] at h2
      have b0 := bw_lt fw k
      have b1 := bw_lt fw (k + 1)
      have b2 := bw_lt fw (k + 2)
      have b3 := bw_lt fw (k + 3)
      exact c ⟨by omega, by omega, by omega, by omega, by omega⟩
    · exact ⟨_, _, _, by rw [if_neg d2], by decide⟩
def pre30 {α : Type} (hf hfa id0 fr0 to0 un0 : Int32) (mt : Nat → Int32) (k e i met : Int32) (ok : Int32 → Int32 → Int32 → Int32 → Int32 → Int32 → Int32 → Option α) (bad : Int32 → Int32 → Int32 → Int32 → Int32 → Int32 → Int32 → Option α) : Option α := (fX10_name Fu hf hfa id0 fr0 mt k e i met).bind fun o1 => if o1.1 = 0 then (bad 0 o1.2.1 o1.2.2.1 o1.2.2.2.1 o1.2.2.2.2 to0 un0) else ((fX10_head Fu o1.2.1 o1.2.2.1 o1.2.2.2.1 o1.2.2.2.2 to0 un0 mt k e i).bind fun o3 => if o3.1 = 0 then (bad 0 o3.2.1 o3.2.2.1 o1.2.2.2.1 o3.2.2.2.1 o3.2.2.2.2.1 o3.2.2.2.2.2) else ((fX10_bit Fu o1.2.2.2.1 i).bind fun o5 => if o5 = 0 then (ok o5 o3.2.1 o3.2.2.1 o1.2.2.2.1 o3.2.2.2.1 o3.2.2.2.2.1 o3.2.2.2.2.2) else (if (met &&& o5) = 0 then (ok o5 o3.2.1 o3.2.2.1 o1.2.2.2.1 o3.2.2.2.1 o3.2.2.2.2.1 o3.2.2.2.2.2) else ((fX10_fails Fu 4 k).bind fun o8 => if isb o8.1 = true then bad o8.1 o8.2.1 o8.2.2 o1.2.2.2.1 o3.2.2.2.1 o3.2.2.2.2.1 o3.2.2.2.2.2 else none))))
theorem mayT0 : ∀ i, i < 8 → ∀ r, r < 27 → ((r = 0 ∨ par r = i) ∧ idr r = 408125543) → nI i = 0 := by decide +kernel
theorem mayT2 : ∀ i, i < 8 → ∀ r, r < 27 → ((r = 0 ∨ par r = i) ∧ idr r = 524531317) → nI i = 2 := by decide +kernel
theorem bitv0 : ∀ r, r < 27 → (bitv r = 0 ↔ (r = 0 ∨ r = 21 ∨ r = 23 ∨ r = 24)) := by decide +kernel
theorem elem_step {α : Type} {T k e i j : Nat} {fw mt : Nat → Int32} (hm : ∀ k, k < T → mt k &&& 255 = nI (bw fw k)) (hT : T ≤ 6000) (hk : k < e) (he : e ≤ T) (hi : i < 8) {ids en seen till : Nat → Int32} (hid : ids j = idl i) (hen : en j = nI e) {met : Int32} (hLV : LV i (seen j) met) (htl : till j = 0 ∨ ∀ hf hp, ∃ v f p, fX1_readId Fu hf hp (nI T) 1501 fw (nI k) (nI e) = some (v, f, p) ∧ ¬ v = 524531317) (hf hp hfa cl bl dep : Int32) (tn ct bs : Int64) (la : Int32) (hz mp : Nat → Int32) (pk pbl ov : Int32) (pbw pe : Nat → Int32) (pt : Nat → Int64) (id0 fr0 to0 un0 : Int32) (ok : Int32 → Int32 → Int32 → Int32 → Int32 → Int32 → Int32 → Option α) (bad : Int32 → Int32 → Int32 → Int32 → Int32 → Int32 → Int32 → Option α) :
    (∃ (f : Int32) (X : CT) (id' fr' to' un' : Int32), 0 < f ∧ fX1_readElement Fu hf hp cl bl dep tn ct bs la hz ids mp en seen till (nI T) 1501 fw pk 2400 pbl ov 601 pbw pe pt j (nI k) = some X ∧ X.1 = -1 ∧ X.2.1 = f ∧ X.2.2.1 = nI k ∧ pre30 hf hfa id0 fr0 to0 un0 mt (nI k) (nI e) (nI i) met ok bad = bad 0 f (nI k) id' fr' to' un') ∨
    (∃ (r q to : Nat) (bs' : Int64) (un : Int32), r < 27 ∧ (r = 0 ∨ par r = i) ∧ stC r (seen j) = true ∧ k + 2 ≤ q ∧ q ≤ to ∧ to ≤ e ∧ ((bs' = -1 ∧ un = 1 ∧ to = e) ∨ (un = 0 ∧ ¬ bs' = -1)) ∧ fX1_readElement Fu hf hp cl bl dep tn ct bs la hz ids mp en seen till (nI T) 1501 fw pk 2400 pbl ov 601 pbw pe pt j (nI k) = fX1_readElement_b173 Fu cl bl dep tn ct la hz ids mp en till (nI T) 1501 fw pk 2400 pbl ov 601 pbw pe pt (nI k) (idr r) (nI r) (nI q) (nI to) hf hp bs' (upd seen j (seen j ||| ((1 : Int32) <<< (nI r &&& 31)))) ∧ pre30 hf hfa id0 fr0 to0 un0 mt (nI k) (nI e) (nI i) met ok bad = ok (bitv r) hf hfa (idr r) (nI q) (nI to) un) := by
  -- the class behind the name
  have h37 : ∀ v, fX1_readId Fu hf hp (nI T) 1501 fw (nI k) (nI e) = some (v, hf, hp) → ¬ v = -1 → fX1_readElement Fu hf hp cl bl dep tn ct bs la hz ids mp en seen till (nI T) 1501 fw pk 2400 pbl ov 601 pbw pe pt j (nI k) = fX1_readElement_b37 Fu cl bl dep tn ct bs la hz ids mp en seen till (nI T) 1501 fw pk 2400 pbl ov 601 pbw pe pt j (nI k) v hf hp := by
    intro v hv hv1
    unfold fX1_readElement
    rw [hen, hv, Option.bind_some]
    dsimp only
    rw [if_neg hv1]
    rcases htl with h | h
    · rw [if_pos h]
    · obtain ⟨v', f', p', q1, q2⟩ := h hf hp
      rw [hv] at q1
      have q3 : v = v' := congrArg Prod.fst (Option.some.inj q1)
      rw [← q3] at q2
      by_cases c : till j = 0
      · rw [if_pos c]
      · rw [if_neg c, if_neg q2]
  rcases name_cases hm hT hk he id0 fr0 (nI i) met with ⟨f, f0, n1, n2⟩ | ⟨n, hn, n1, n4, ne, hlt, r1, r2⟩
  · left
    refine ⟨f, (-1, f, nI k, cl, bl, dep, tn, ct, bs, la, hz, ids, mp, en, seen, till, pk, pbl, ov, pbw, pe, pt), id0, fr0, to0, un0, f0, ?_, rfl, rfl, rfl, ?_⟩
    · unfold fX1_readElement
      rw [hen, n1, Option.bind_some]
      dsimp only
      rw [if_pos (rfl : (-1 : Int32) = -1)]
    · unfold pre30
      rw [n2, Option.bind_some]
      dsimp only
      rw [if_pos (rfl : (0 : Int32) = 0)]
  · obtain ⟨id, hidd⟩ : ∃ id, id = nI (hiN (bw fw) k n) := ⟨_, rfl⟩
    rw [← hidd] at r1 r2
    have hid1 : ¬ id = -1 := by rw [hidd]; exact m1_eq (by omega)
    have hRE := h37 id (r1 hf hp) hid1
    -- it may not stand
    have nost : (fX1_rowOf Fu id (idl i) = some (-1) ∨ ∃ r, fX1_rowOf Fu id (idl i) = some (nI r) ∧ r < 27 ∧ fX1_mayStand Fu id (seen j) = some 0) → fX10_mayStand Fu id (nI i) met = some 0 → ∃ (f : Int32) (X : CT) (id' fr' to' un' : Int32), 0 < f ∧ fX1_readElement Fu hf hp cl bl dep tn ct bs la hz ids mp en seen till (nI T) 1501 fw pk 2400 pbl ov 601 pbw pe pt j (nI k) = some X ∧ X.1 = -1 ∧ X.2.1 = f ∧ X.2.2.1 = nI k ∧ pre30 hf hfa id0 fr0 to0 un0 mt (nI k) (nI e) (nI i) met ok bad = bad 0 f (nI k) id' fr' to' un' := by
      intro hc hr
      refine ⟨2, (-1, 2, nI k, cl, bl, dep, tn, ct, bs, la, hz, ids, mp, en, seen, till, pk, pbl, ov, pbw, pe, pt), id, nI (k + n), to0, un0, by decide, ?_, rfl, rfl, rfl, ?_⟩
      · rw [hRE]
        unfold fX1_readElement_b37 fX1_readElement_b64 fX1_fail
        rcases hc with hc | ⟨r, hc, hr27, hc2⟩
        · rw [hid, hc, Option.bind_some, if_pos (rfl : (-1 : Int32) = -1), Option.bind_some]
        · rw [hid, hc, Option.bind_some, if_neg (m1_eq (by omega)), hc2, Option.bind_some, if_pos (rfl : (0 : Int32) = 0), Option.bind_some]
      · unfold pre30
        rw [r2, hr, Option.bind_some, if_pos (rfl : (0 : Int32) = 0), Option.bind_some]
        dsimp only
        rw [if_pos (rfl : (0 : Int32) = 0)]
    by_cases hx : ∃ r, r < 27 ∧ id = idr r
    · obtain ⟨r, hr, hxr⟩ := hx
      have hrow := rowT i hi r hr
      have hms := ms_r hi hr met
      have hmc := ms_c hr (seen j)
      rw [← hxr] at hrow hms hmc
      by_cases ha : r = 0 ∨ par r = i
      · rw [if_pos ha] at hrow
        have hst := st_eq hr ha hLV
        by_cases hs : stC r (seen j) = true
        · rw [if_pos hs] at hmc
          rw [hst] at hs
          rw [if_pos ⟨ha, hs⟩] at hms
          rw [← hst] at hs
          -- it may stand: its size
          have hwid : wid (bw fw k) = n := hn.symm
          have hmw := mw_c _ (bw_lt fw k)
          rw [hwid, if_neg (by omega)] at hmw
          have hcol : fX1_column Fu (nI r) 2 = some (kTold (r * 6 + 2)) := col Fu hr (c := 2) (by omega)
          have hc37 : fX1_readElement Fu hf hp cl bl dep tn ct bs la hz ids mp en seen till (nI T) 1501 fw pk 2400 pbl ov 601 pbw pe pt j (nI k) = (fX1_readSize Fu hf hp bs (nI T) 1501 fw (nI k) (nI (k + n)) (nI e) id).bind fun o10 => if o10.1 = (-1) then (some ((-1), o10.2.1, o10.2.2.1, cl, bl, dep, tn, ct, o10.2.2.2, la, hz, ids, mp, en, seen, till, pk, pbl, ov, pbw, pe, pt)) else ((fX1_column Fu (nI r) 2).bind fun o12 => if o12 = 0 then (fX1_readElement_b134 Fu cl bl dep tn ct la hz ids mp en seen till (nI T) 1501 fw pk 2400 pbl ov 601 pbw pe pt j (nI k) o10.1 (nI r) id o10.2.1 o10.2.2.1 o10.2.2.2) else (if (((seen j) >>> (nI r &&& 31)) &&& 1) = 0 then (fX1_readElement_b134 Fu cl bl dep tn ct la hz ids mp en seen till (nI T) 1501 fw pk 2400 pbl ov 601 pbw pe pt j (nI k) o10.1 (nI r) id o10.2.1 o10.2.2.1 o10.2.2.2) else ((fX1_fail Fu 4 (nI k)).bind fun o16 => some (o16.1, o16.2.1, o16.2.2, cl, bl, dep, tn, ct, o10.2.2.2, la, hz, ids, mp, en, seen, till, pk, pbl, ov, pbw, pe, pt)))) := by
            rw [hRE]
            unfold fX1_readElement_b37
            rw [hid, hrow, Option.bind_some, if_neg (m1_eq (by omega)), hmc, Option.bind_some, if_neg (show ¬ (1 : Int32) = 0 by decide), at_bw Fu (by omega) (by omega) (by omega) (by omega), Option.bind_some, hmw, Option.bind_some, nI_add, hen]
          have hp30 : pre30 hf hfa id0 fr0 to0 un0 mt (nI k) (nI e) (nI i) met ok bad = (fX10_head Fu hf hfa id (nI (k + n)) to0 un0 mt (nI k) (nI e) (nI i)).bind fun o3 => if o3.1 = 0 then (bad 0 o3.2.1 o3.2.2.1 id o3.2.2.2.1 o3.2.2.2.2.1 o3.2.2.2.2.2) else ((fX10_bit Fu id (nI i)).bind fun o5 => if o5 = 0 then (ok o5 o3.2.1 o3.2.2.1 id o3.2.2.2.1 o3.2.2.2.2.1 o3.2.2.2.2.2) else (if (met &&& o5) = 0 then (ok o5 o3.2.1 o3.2.2.1 id o3.2.2.2.1 o3.2.2.2.2.1 o3.2.2.2.2.2) else ((fX10_fails Fu 4 (nI k)).bind fun o8 => if isb o8.1 = true then bad o8.1 o8.2.1 o8.2.2 id o3.2.2.2.1 o3.2.2.2.2.1 o3.2.2.2.2.2 else none))) := by
            unfold pre30
            rw [r2, hms, Option.bind_some, if_neg (show ¬ (1 : Int32) = 0 by decide), Option.bind_some]
            dsimp only
            rw [if_neg (show ¬ (1 : Int32) = 0 by decide)]
          have hmay : may (nI i) id ↔ (id = 408125543 ∨ id = 524531317) := by
            rw [hxr]
            constructor
            · rintro (⟨-, h⟩ | ⟨-, h⟩)
              · exact Or.inl h
              · exact Or.inr h
            · rintro (h | h)
              · exact Or.inl ⟨mayT0 i hi r hr ⟨ha, h⟩, h⟩
              · exact Or.inr ⟨mayT2 i hi r hr ⟨ha, h⟩, h⟩
          rcases size_cases hm hT he (show k + n ≤ e by omega) hmay bs to0 un0 (k := k) with ⟨f, bs', f0, z1, z2⟩ | ⟨q, to, bs', un, z0, z1, z2, z3, z4, z5⟩
          · left
            obtain ⟨a, b, c, z3⟩ := z2 hf hfa
            refine ⟨f, (-1, f, nI k, cl, bl, dep, tn, ct, bs', la, hz, ids, mp, en, seen, till, pk, pbl, ov, pbw, pe, pt), id, a, b, c, f0, ?_, rfl, rfl, rfl, ?_⟩
            · rw [hc37, z1, Option.bind_some]
              dsimp only
              rw [if_pos (rfl : (-1 : Int32) = -1)]
            · rw [hp30, z3, Option.bind_some]
              dsimp only
              rw [if_pos (rfl : (0 : Int32) = 0)]
          · rw [z3, Option.bind_some] at hc37
            dsimp only at hc37
            rw [if_neg (m1_eq (by omega)), hcol, Option.bind_some] at hc37
            have hbit := bitT i hi r hr ha
            rw [← hxr] at hbit
            rw [z4, Option.bind_some] at hp30
            dsimp only at hp30
            rw [if_neg (show ¬ (1 : Int32) = 0 by decide), hbit, Option.bind_some] at hp30
            obtain ⟨ho, hbx⟩ := oftT r hr
            have hb0 := bitv0 r hr
            have hz5 : (bs' = -1 ∧ un = 1 ∧ to = e) ∨ (un = 0 ∧ ¬ bs' = -1) := by
              rcases z5 with ⟨y1, y2, y3, -⟩ | ⟨y1, y2, -⟩
              · exact Or.inl ⟨y1, y2, y3⟩
              · exact Or.inr ⟨y1, y2⟩
            have h134 : fX1_readElement_b134 Fu cl bl dep tn ct la hz ids mp en seen till (nI T) 1501 fw pk 2400 pbl ov 601 pbw pe pt j (nI k) (nI q) (nI r) id hf hp bs' = fX1_readElement_b173 Fu cl bl dep tn ct la hz ids mp en till (nI T) 1501 fw pk 2400 pbl ov 601 pbw pe pt (nI k) (idr r) (nI r) (nI q) (nI to) hf hp bs' (upd seen j (seen j ||| ((1 : Int32) <<< (nI r &&& 31)))) := by
              unfold fX1_readElement_b134
              simp only [nm_eq]
              rw [← hxr]
              rcases z5 with ⟨y1, y2, y3, -⟩ | ⟨y1, y2, y3⟩
              · rw [if_pos y1, hen, y3]
              · rw [if_neg y2, y3, lN_i, nI_add, show q + (to - q) = to by omega]
            by_cases hof : r = 0 ∨ r = 21 ∨ r = 23 ∨ r = 24
            · right
              rw [if_pos (ho.mpr hof), h134] at hc37
              rw [if_pos (hb0.mpr hof)] at hp30
              exact ⟨r, q, to, bs', un, hr, ha, hs, by omega, z1, z2, hz5, hc37, by rw [← hxr]; exact hp30⟩
            · rw [if_neg (fun h => hof (ho.mp h))] at hc37
              rw [if_neg (fun h => hof (hb0.mp h))] at hp30
              have htr : trk r = true := by
                unfold trk
                rw [decide_eq_false (fun q => hof (Or.inl q)), decide_eq_false (fun q => hof (Or.inr (Or.inr (Or.inl q)))), decide_eq_false (fun q => hof (Or.inr (Or.inr (Or.inr q))))]
                rfl
              have hpr : par r = i := ha.resolve_left (fun q => hof (Or.inl q))
              have hlv := hLV r hr hpr htr
              have hbv : bitv r = nI (2 ^ bx r) := by
                unfold bitv
                rw [if_neg hof]
              cases hbt : bt (seen j) r with
              | false =>
                right
                rw [hbt] at hlv
                rw [if_pos ((sb _ (by omega)).mpr hbt), h134] at hc37
                rw [if_pos (show met &&& bitv r = 0 by rw [hbv]; exact (mb met hbx).mpr hlv.symm)] at hp30
                exact ⟨r, q, to, bs', un, hr, ha, hs, by omega, z1, z2, hz5, hc37, by rw [← hxr]; exact hp30⟩
              | true =>
                left
                rw [hbt] at hlv
                rw [if_neg (fun h => by rw [sb _ (by omega), hbt] at h; cases h)] at hc37
                rw [if_neg (fun h => by rw [hbv, mb met hbx, ← hlv] at h; cases h)] at hp30
                unfold fX10_fails at hp30
                unfold fX1_fail at hc37
                rw [Option.bind_some] at hc37
                rw [Option.bind_some, if_pos isb0] at hp30
                exact ⟨4, _, id, nI q, nI to, un, by decide, hc37, rfl, rfl, rfl, hp30⟩
        · left
          rw [if_neg hs] at hmc
          rw [hst] at hs
          rw [if_neg (fun h => hs h.2)] at hms
          exact nost (Or.inr ⟨r, hrow, hr, hmc⟩) hms
      · left
        rw [if_neg ha] at hrow
        rw [if_neg (fun h => ha h.1)] at hms
        exact nost (Or.inl hrow) hms
    · left
      have hno : ∀ r, r < 27 → ¬ id = idr r := fun r hr h => hx ⟨r, hr, h⟩
      exact nost (Or.inl (row_no hno _)) (ms_no hno _ _)
def srt (r : Nat) : Nat := if r = 1 then 1 else if r = 9 then 2 else if r = 10 then 3 else if r = 14 then 4 else if r = 15 then 5 else if r = 21 then 6 else 7
def isM (r : Nat) : Bool := decide (r = 1) || decide (r = 9) || decide (r = 10) || decide (r = 14) || decide (r = 15) || decide (r = 21) || decide (r = 24)
theorem mT : ∀ r, r < 27 → isM r = true → kTold (r * 6 + 3) = 0 ∧ idr r = idl (srt r) ∧ (idr r = 524531317 ↔ r = 21) ∧ fX10_sortOf Fu (idr r) = some (nI (srt r)) ∧ ¬ idr r = 236 ∧ (nI (srt r) = 6 ↔ r = 21) := by decide +kernel
theorem lT : ∀ r, r < 27 → isL r = true → fX10_sortOf Fu (idr r) = some (-1) ∧ ¬ idr r = 236 := by decide +kernel
theorem rT : ∀ r, r < 27 → r = 0 ∨ isM r = true ∨ isL r = true := by decide +kernel
theorem open_c {T k q to d r : Nat} {fw : Nat → Int32} (hd : d + 1 < 5) (hr : r < 27) (hM : isM r = true) (tn ct bs : Int64) (pk pbl : Int32) (pbw pe : Nat → Int32) (pt : Nat → Int64) (hf hp cl bl la ov : Int32) (hz ids mp en seen till : Nat → Int32) : ∃ till' : Nat → Int32, till' (d + 1) = (if r = 21 ∧ bs = -1 then 1 else 0) ∧ (∀ j, j < d + 1 → till' j = till j) ∧ fX1_readElement_b173 Fu cl bl (nI (d + 1)) tn ct la hz ids mp en till (nI T) 1501 fw pk 2400 pbl ov 601 pbw pe pt (nI k) (idr r) (nI r) (nI q) (nI to) hf hp bs seen = some (nI q, hf, hp, (if r = 21 then cl + 1 else cl), bl, nI (d + 2), tn, (if r = 21 then -1 else ct), bs, la, hz, upd ids (d + 1) (idr r), upd mp (d + 1) (nI k), upd en (d + 1) (nI to), upd seen (d + 1) 0, till', pk, pbl, ov, pbw, pe, pt) := by
  obtain ⟨m1, m2, m3, m4, m5, m6⟩ := mT r hr hM
  have c3 : fX1_column Fu (nI r) 3 = some (kTold (r * 6 + 3)) := col Fu hr (c := 3) (by omega)
  unfold fX1_readElement_b173
  rw [c3, Option.bind_some, nm_eq, m1, if_pos (show (0 : Int64).toInt32 = 0 by decide)]
  unfold fX1_openLevel
  rw [if_pos (show nI (d + 1) < 5 from nI_lt (show d + 1 < 5 from hd) (show 5 < 2 ^ 31 by omega)), if_pos (gin_nI hd (by omega))]
  simp only [nm_eq]
  rw [nI_clamp (by omega), nI_1]
  by_cases c : r = 21
  · rw [if_pos (m3.mpr c)]
    by_cases cb : bs = -1
    · rw [if_pos cb]
      unfold fX1_openLevel_b95 fX1_openLevel_b115
      rw [if_pos isb1]
      simp only [nm_eq]
      refine ⟨upd (upd till (d + 1) 0) (d + 1) 1, ?_, fun j hj => ?_, ?_⟩
      · rw [upd_app, if_pos rfl, if_pos ⟨c, cb⟩]
      · rw [upd_app, if_neg (by omega), upd_app, if_neg (by omega)]
      · rw [Option.bind_some, if_pos c, if_pos c]
    · rw [if_neg cb]
      unfold fX1_openLevel_b95 fX1_openLevel_b115
      rw [if_pos isb0]
      simp only [nm_eq]
      refine ⟨upd (upd till (d + 1) 0) (d + 1) 0, ?_, fun j hj => ?_, ?_⟩
      · rw [upd_app, if_pos rfl, if_neg (fun h => cb h.2)]
      · rw [upd_app, if_neg (by omega), upd_app, if_neg (by omega)]
      · rw [Option.bind_some, if_pos c, if_pos c]
  · rw [if_neg (fun h => c (m3.mp h))]
    unfold fX1_openLevel_b115
    refine ⟨upd till (d + 1) 0, ?_, fun j hj => ?_, ?_⟩
    · rw [upd_app, if_pos rfl, if_neg (fun h => c h.1)]
    · rw [upd_app, if_neg (by omega)]
    · rw [Option.bind_some, if_neg c, if_neg c]
theorem void_c {T k q to : Nat} {fw : Nat → Int32} (hT : T ≤ 6000) (hq : q ≤ to) (ht : to ≤ T) (tn ct bs : Int64) (pk pbl : Int32) (pbw pe : Nat → Int32) (pt : Nat → Int64) (hf hp cl bl la ov dep : Int32) (hz ids mp en seen till : Nat → Int32) : fX1_readElement_b173 Fu cl bl dep tn ct la hz ids mp en till (nI T) 1501 fw pk 2400 pbl ov 601 pbw pe pt (nI k) (idr 0) (nI 0) (nI q) (nI to) hf hp bs seen = some (nI to, hf, hp, cl, bl, dep, tn, ct, bs, la, hz, ids, mp, en, seen, till, pk, pbl, ov, pbw, pe, pt) := by
  have c3 : fX1_column Fu (nI 0) 3 = some 2 := by decide +kernel
  have c4 : fX1_column Fu (nI 0) 4 = some 0 := by decide +kernel
  unfold fX1_readElement_b173 fX1_readElement_b300
  rw [c3, Option.bind_some, nm_eq, if_neg (show ¬ (2 : Int64).toInt32 = 0 by decide), if_neg (show ¬ (2 : Int64).toInt32 = 1 by decide), if_pos (show (2 : Int64).toInt32 = 2 by decide), c4, Option.bind_some, pk_sub hq, nI_l (by omega), if_neg (show ¬ lN (to - q) < 0 from fun h => by have h0 : (0 : Int64) = lN 0 := rfl; rw [h0, pk_lLT (by omega) (by omega)] at h; omega)]
