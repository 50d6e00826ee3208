-- a block as a whole
def NUM (tn : Int64) (num : Int32) : Prop := ∃ v : Nat, 1 ≤ v ∧ v ≤ 126 ∧ tn = lN v ∧ num = nI v
def CTR (ct ctm : Int64) (has : Int32) : Prop := (has = 0 ∧ ct = -1) ∨ (has = 1 ∧ ct = ctm ∧ ∃ v : Nat, v < 2 ^ 40 ∧ ct = lN v)
theorem flT : ∀ b, b < 256 → (nI b &&& ((143 : Int32) ^^^ (-1)) = 0 ↔ nI b &&& 112 = 0) ∧ (nI b &&& ((14 : Int32) ^^^ (-1)) = 0 ↔ (nI b &&& 112 = 0 ∧ nI b &&& 129 = 0)) := by decide +kernel
theorem laT : ∀ b, b < 256 → (nI b >>> ((1 : Int32) &&& 31)) &&& 3 = nI (b / 2 % 4) := by decide +kernel
theorem lN_ne1 {x : Nat} (hx : x < 2 ^ 62) : ¬ lN x = -1 := by
  intro h
  have h2 := congrArg Int64.toInt h
  have h3 : (-1 : Int64).toInt = -1 := by decide +kernel
  rw [pk_lT (by omega), h3] at h2
  omega
/-- behind the flags: packets told, room, taking -/
theorem laces_eq {T p e l N0 T0 : Nat} {fw mt : Nat → Int32} (hm : ∀ k, k < T → mt k &&& 255 = nI (bw fw k)) (hT : T ≤ 6000) (he : e ≤ T) (hpe : p ≤ e) (hl : l < 4) {sz : Nat → Nat} {pbw pe rs rby : Nat → Int32} {pt rt : Nat → Int64} (hN : N0 ≤ 64) (hT0 : T0 ≤ 2400) (hsz : psum sz N0 = T0) (hli : ∀ i, i < N0 → rs i = nI (sz i) ∧ pe i = nI (psum sz (i + 1)) ∧ pt i = rt i ∧ -1 ≤ pt i ∧ pt i ≤ 1099511627775) (hby : ∀ k, k < T0 → rb pbw k = rby k &&& 255) {tm : Int64} (ht1 : ¬ tm < 0) (ht2 : tm ≤ 1099511627775) (hf hp hfa k bl bls ov : Int32) (hz sz0 : Nat → Int32) {fl : Int32} (hfl : (fl >>> ((1 : Int32) &&& 31)) &&& 3 = nI l) :
    (∃ (f : Int32) (X : Int32 × Int32 × Int32 × Int32 × Int32 × (Nat → Int32) × Int32 × Int32 × Int32 × (Nat → Int32) × (Nat → Int32) × (Nat → Int64)) (Y : Int32 × Int32 × Int32 × Int32 × Int32 × Int32 × (Nat → Int32) × (Nat → Int64) × (Nat → Int32) × (Nat → Int32)), 0 < f ∧ ((fX1_readLacing Fu hz (nI T) 1501 fw (nI l) (nI p) (nI e)).bind fun o4 => if o4.1 = (-1) then ((fX1_fail Fu 5 k).bind fun o11 => some (o11.1, o11.2.1, o11.2.2, bl, o4.2.1, o4.2.2, nI N0, nI T0, ov, pbw, pe, pt)) else ((fX4_hasRoom Fu (nI N0) (nI T0) o4.1 (nI e - o4.2.1)).bind fun o6 => if o6 = 0 then ((fX1_fail Fu 6 k).bind fun o10 => some (o10.1, o10.2.1, o10.2.2, bl, o4.2.1, o4.2.2, nI N0, nI T0, ov, pbw, pe, pt)) else ((fX1_takePackets Fu o4.2.1 o4.2.2 (nI T) 1501 fw (nI N0) 2400 (nI T0) ov 601 pbw pe pt o4.1 tm).bind fun o8 => nm ((bl + 1)) fun x9 => some (nI e, hf, hp, x9, o4.2.1, o4.2.2, o8.1, o8.2.1, o8.2.2.1, o8.2.2.2.1, o8.2.2.2.2.1, o8.2.2.2.2.2)))) = some X ∧ X.1 = -1 ∧ X.2.1 = f ∧ X.2.2.1 = k ∧ fX10_block_b197 Fu (nI N0) (nI T0) hf hfa (nI e) mt rs rt rby sz0 k (nI p) tm fl bls = some Y ∧ Y.1 = 0 ∧ Y.2.2.2.1 = f ∧ Y.2.2.2.2.1 = k) ∨
    (∃ (la' : Int32) (hz' : Nat → Int32) (pk' pbl' : Int32) (pbw' pe' : Nat → Int32) (pt' : Nat → Int64) (rm' rtot' : Int32) (rs' : Nat → Int32) (rt' : Nat → Int64) (rby' sz' : Nat → Int32), ((fX1_readLacing Fu hz (nI T) 1501 fw (nI l) (nI p) (nI e)).bind fun o4 => if o4.1 = (-1) then ((fX1_fail Fu 5 k).bind fun o11 => some (o11.1, o11.2.1, o11.2.2, bl, o4.2.1, o4.2.2, nI N0, nI T0, ov, pbw, pe, pt)) else ((fX4_hasRoom Fu (nI N0) (nI T0) o4.1 (nI e - o4.2.1)).bind fun o6 => if o6 = 0 then ((fX1_fail Fu 6 k).bind fun o10 => some (o10.1, o10.2.1, o10.2.2, bl, o4.2.1, o4.2.2, nI N0, nI T0, ov, pbw, pe, pt)) else ((fX1_takePackets Fu o4.2.1 o4.2.2 (nI T) 1501 fw (nI N0) 2400 (nI T0) ov 601 pbw pe pt o4.1 tm).bind fun o8 => nm ((bl + 1)) fun x9 => some (nI e, hf, hp, x9, o4.2.1, o4.2.2, o8.1, o8.2.1, o8.2.2.1, o8.2.2.2.1, o8.2.2.2.2.1, o8.2.2.2.2.2)))) = some (nI e, hf, hp, bl + 1, la', hz', pk', pbl', ov, pbw', pe', pt') ∧ fX10_block_b197 Fu (nI N0) (nI T0) hf hfa (nI e) mt rs rt rby sz0 k (nI p) tm fl bls = some (1, rm', rtot', hf, hfa, bls, rs', rt', rby', sz') ∧ RLi pk' pbl' pbw' pe' pt' rm' rtot' rs' rt' rby') := by
  have hb := bw_lt fw p
  unfold fX10_block_b197
  rw [nm_eq, hfl]
  rcases lace_eq hm hT he hpe hl hz sz0 with ⟨⟨la, z, g1⟩, g2⟩ | ⟨cnt, a, s, z, c1, c2, c3, c4, c5, g1, g2, g3⟩
  · left
    have hcl : ((fX1_readLacing Fu hz (nI T) 1501 fw (nI l) (nI p) (nI e)).bind fun o4 => if o4.1 = (-1) then ((fX1_fail Fu 5 k).bind fun o11 => some (o11.1, o11.2.1, o11.2.2, bl, o4.2.1, o4.2.2, nI N0, nI T0, ov, pbw, pe, pt)) else ((fX4_hasRoom Fu (nI N0) (nI T0) o4.1 (nI e - o4.2.1)).bind fun o6 => if o6 = 0 then ((fX1_fail Fu 6 k).bind fun o10 => some (o10.1, o10.2.1, o10.2.2, bl, o4.2.1, o4.2.2, nI N0, nI T0, ov, pbw, pe, pt)) else ((fX1_takePackets Fu o4.2.1 o4.2.2 (nI T) 1501 fw (nI N0) 2400 (nI T0) ov 601 pbw pe pt o4.1 tm).bind fun o8 => nm ((bl + 1)) fun x9 => some (nI e, hf, hp, x9, o4.2.1, o4.2.2, o8.1, o8.2.1, o8.2.2.1, o8.2.2.2.1, o8.2.2.2.2.1, o8.2.2.2.2.2)))) = some (-1, 5, k, bl, la, z, nI N0, nI T0, ov, pbw, pe, pt) := by
      rw [g1, Option.bind_some]
      dsimp only
      rw [if_pos (rfl : (-1 : Int32) = -1)]
      rfl
    have hl0 : ¬ l = 0 := by
      rcases g2 with ⟨h, -⟩ | ⟨h, -⟩
      · exact h
      · exact h
    have hx : ¬ nI l ≤ 0 := by
      rw [i0]; exact nI_ge (by omega) (by omega)
    rw [if_neg hx]
    rcases g2 with ⟨-, h2⟩ | ⟨-, h2, g3⟩
    · rw [if_neg (nI_nlt h2 (by omega))]
      unfold fX10_fails
      rw [Option.bind_some, if_pos isb0]
      exact ⟨5, _, _, by decide, hcl, rfl, rfl, rfl, rfl, rfl, rfl, rfl⟩
    · rw [if_pos (nI_lt h2 (by omega)), rat_B Fu hm hT (by omega), Option.bind_some, nm_eq, nI_1, nI_1]
      rcases g3 with ⟨z', g3⟩ | ⟨a, s, z', q1, q2, g3, g4, g5⟩
      · rw [g3, Option.bind_some]
        dsimp only
        rw [if_pos (rfl : (-1 : Int32) = -1)]
        unfold fX10_fails
        rw [Option.bind_some, if_pos isb0]
        exact ⟨5, _, _, by decide, hcl, rfl, rfl, rfl, rfl, rfl, rfl, rfl⟩
      · rw [g3, Option.bind_some]
        dsimp only
        rw [if_neg (m1_eq (by omega))]
        unfold fX10_block_b261
        obtain ⟨n', d⟩ := bs_loop (cnt := bw fw p + 1) (s := s) (z := z') (by omega) (by omega) (fun j hj => g4 j (by omega)) (nI N0) (nI T0) hf hfa (nI e) (nI a) bls k mt rs rby rt tm (bw fw p) Fu 0 (by omega) (by unfold Fu; omega)
        have d' : fX10_block_b267 Fu (nI N0) (nI T0) hf hfa (nI e) mt rs rt rby k Fu 0 0 (nI a) tm (nI (bw fw p + 1)) bls z' = _ := d
        have hps := psum_bd (fun j hj => (g4 j hj).2)
        have hbd : bw fw p * 2000000 ≤ 256 * 2000000 := Nat.mul_le_mul_right _ (by omega)
        have hpr : nI (bw fw p + 1) - 1 = nI (bw fw p) := by rw [i1, pk_sub (by omega)]; rfl
        rw [d', show bw fw p + 1 - 1 = bw fw p by omega, fX10_block_b267, hpr, if_pos (nI_le (Nat.le_refl _) (by omega)), pk_sub q2, nI_l (by omega), if_neg (by rw [pk_lLE (by omega) (by omega)]; exact g5)]
        unfold fX10_fails
        rw [Option.bind_some, if_pos isb0]
        exact ⟨5, _, _, by decide, hcl, rfl, rfl, rfl, rfl, rfl, rfl, rfl⟩
  · have hrm := hasRoom_nI Fu (N := N0) (T := T0) (p := cnt) (n := e - a) hN hT0 (by omega) (by omega)
    have hsc : psum s (cnt - 1) + s (cnt - 1) = e - a := by
      rw [← c5]
      obtain ⟨c', rfl⟩ : ∃ c', cnt = c' + 1 := ⟨cnt - 1, by omega⟩
      rw [show c' + 1 - 1 = c' by omega]
      rfl
    -- the reference comes to the sum's end
    have href : ∃ (z3 : Nat → Int32), (∀ j, j < cnt → z3 j = nI (s j)) ∧ (if nI l ≤ 0 then (fX10_block_b261 Fu (nI N0) (nI T0) hf hfa (nI e) mt rs rt rby k 1 (nI p) tm bls sz0) else (if nI p < nI e then ((fX10_at Fu mt (nI p)).bind fun o4 => nm ((o4 + 1)) fun x5 => (fX10_laced Fu (nI e) mt sz0 (nI p + 1) x5 (nI l)).bind fun o6 => if o6.1 = (-1) then ((fX10_fails Fu 5 k).bind fun o8 => if isb o8.1 = true then some (o8.1, nI N0, nI T0, o8.2.1, o8.2.2, bls, rs, rt, rby, o6.2) else none) else (fX10_block_b261 Fu (nI N0) (nI T0) hf hfa (nI e) mt rs rt rby k x5 o6.1 tm bls o6.2)) else ((fX10_fails Fu 5 k).bind fun o10 => if isb o10.1 = true then some (o10.1, nI N0, nI T0, o10.2.1, o10.2.2, bls, rs, rt, rby, sz0) else none))) = (if 64 < nI N0 + nI cnt then (fX10_block_b363 Fu (nI N0) (nI T0) rs rt rby k bls z3) else (if ((nI T0 + nI e) - nI a) ≤ 2400 then (fX10_block_b374 Fu (nI T0) hf hfa (nI e) mt rby Fu 0 (nI a) tm (nI cnt) (nI N0) bls rs rt z3) else (fX10_block_b363 Fu (nI N0) (nI T0) rs rt rby k bls z3))) := by
      have hpr : nI cnt - 1 = nI (cnt - 1) := by rw [i1, pk_sub (by omega)]
      have fin : ∀ (z1 : Nat → Int32) (n' : Nat), (∀ j, j < cnt - 1 → z1 j = nI (s j)) → ∃ (z3 : Nat → Int32), (∀ j, j < cnt → z3 j = nI (s j)) ∧ fX10_block_b267 Fu (nI N0) (nI T0) hf hfa (nI e) mt rs rt rby k (n' + 1) (nI (cnt - 1)) (lN (psum s (cnt - 1))) (nI a) tm (nI cnt) bls z1 = (if 64 < nI N0 + nI cnt then (fX10_block_b363 Fu (nI N0) (nI T0) rs rt rby k bls z3) else (if ((nI T0 + nI e) - nI a) ≤ 2400 then (fX10_block_b374 Fu (nI T0) hf hfa (nI e) mt rby Fu 0 (nI a) tm (nI cnt) (nI N0) bls rs rt z3) else (fX10_block_b363 Fu (nI N0) (nI T0) rs rt rby k bls z3))) := by
        intro z1 n' hz1
        refine ⟨upd z1 (cnt - 1) (nI (s (cnt - 1))), fun j hj => ?_, ?_⟩
        · rw [upd_app]
          by_cases cj : j = cnt - 1
          · rw [if_pos cj, cj]
          · rw [if_neg cj]; exact hz1 j (by omega)
        · rw [fX10_block_b267, hpr, if_pos (nI_le (Nat.le_refl _) (by omega)), pk_sub c4, nI_l (by omega), if_pos (by rw [pk_lLE (by omega) (by omega)]; omega), if_pos (gin_nI (by omega) (by omega)), nm_eq, nI_clamp (by omega), lN_i, pk_sub (by omega), show e - a - psum s (cnt - 1) = s (cnt - 1) by omega]
      rcases g3 with ⟨l0, cn1, ap⟩ | ⟨l0, pe1, cn1, z', g4, g5⟩
      · obtain ⟨n', hn'⟩ : ∃ n', Fu = n' + 1 := ⟨19999, rfl⟩
        obtain ⟨z3, f1, f2⟩ := fin sz0 n' (fun j hj => by omega)
        rw [← hn'] at f2
        refine ⟨z3, f1, ?_⟩
        rw [← f2, if_pos (by rw [l0]; decide)]
        unfold fX10_block_b261
        subst cn1 ap
        rfl
      · have hx : ¬ nI l ≤ 0 := by
          rw [i0]; exact nI_ge (by omega) (by omega)
        obtain ⟨n', d⟩ := bs_loop (cnt := cnt) (s := s) (z := z') c2 c1 g5 (nI N0) (nI T0) hf hfa (nI e) (nI a) bls k mt rs rby rt tm (cnt - 1) Fu 0 (by omega) (by unfold Fu; omega)
        have d' : fX10_block_b267 Fu (nI N0) (nI T0) hf hfa (nI e) mt rs rt rby k Fu 0 0 (nI a) tm (nI cnt) bls z' = _ := d
        obtain ⟨z3, f1, f2⟩ := fin z' n' (fun j hj => (g5 j hj).1)
        refine ⟨z3, f1, ?_⟩
        rw [← f2, if_neg hx, if_pos (nI_lt pe1 (by omega)), rat_B Fu hm hT (by omega), Option.bind_some, nm_eq, nI_1, nI_1, g4, Option.bind_some]
        dsimp only
        rw [if_neg (m1_eq (by omega))]
        unfold fX10_block_b261
        rw [← cn1, d']
    obtain ⟨z3, f1, f2⟩ := href
    rw [f2, g1, Option.bind_some]
    dsimp only
    rw [if_neg (m1_eq (by omega)), pk_sub c4, hrm, Option.bind_some, nI_add, nI_add, pk_sub (by omega), show T0 + e - a = T0 + (e - a) by omega]
    by_cases r1 : N0 + cnt ≤ 64
    · rw [if_neg (show ¬ (64 : Int32) < nI (N0 + cnt) from nI_nlt r1 (show 64 < 2 ^ 31 by omega))]
      by_cases r2 : T0 + (e - a) ≤ 2400
      · right
        rw [if_pos (show nI (T0 + (e - a)) ≤ 2400 from nI_le r2 (show 2400 < 2 ^ 31 by omega)), if_pos (show N0 + cnt ≤ 64 ∧ T0 + (e - a) ≤ 2400 from ⟨r1, r2⟩), if_neg (show ¬ (1 : Int32) = 0 by decide)]
        obtain ⟨w', e', t', d1, d2⟩ := tp_loop (tm := tm) (w0 := pbw) (e0 := pe) (t0 := pt) (fw := fw) (z := z) (s := s) (N0 := N0) (T0 := T0) (a := a) (cnt := cnt) hT r1 (by omega) (by omega) g2 ov cnt Fu 0 pbw pe pt (by omega) (by unfold Fu; omega) ⟨fun _ _ => rfl, fun j h1 h2 => by have h3 : psum s 0 = 0 := rfl; omega, fun _ _ => ⟨rfl, rfl⟩, fun j hj => by omega⟩
        have d1' : fX1_takePackets_b9 Fu z (nI T) 1501 fw 2400 601 (nI cnt) tm Fu 0 (nI a) (nI N0) (nI T0) ov pbw pe pt = _ := d1
        obtain ⟨rs', rt', k1, k2⟩ := rk_loop (cnt := cnt) (N0 := N0) (z := z3) (rs0 := rs) (rt0 := rt) (s := s) (tm := tm) r1 f1 (nI T0) hf hfa (nI e) (nI a) bls mt rby cnt Fu 0 rs rt (by omega) (by unfold Fu; omega) ⟨fun _ _ => ⟨rfl, rfl⟩, fun j hj => by omega⟩
        have k1' : fX10_block_b374 Fu (nI T0) hf hfa (nI e) mt rby Fu 0 (nI a) tm (nI cnt) (nI N0) bls rs rt z3 = _ := k1
        obtain ⟨g, y1, y2⟩ := by_loop (T0 := T0) (mt := mt) hT he c4 r2 hf hfa (nI (N0 + cnt)) bls rs' z3 rt' (e - a) Fu 0 rby (by omega) (by unfold Fu; omega)
        have y1' : fX10_block_b438 Fu hf hfa (nI e) mt Fu (nI a) (nI (N0 + cnt)) (nI T0) bls rs' rt' rby z3 = _ := y1
        unfold fX1_takePackets
        rw [d1', Option.bind_some, nm_eq, k1', y1']
        exact ⟨_, _, _, _, _, _, _, _, _, _, _, _, _, rfl, rfl, RLi_block hm he c4 r1 (by omega) c5 hsz hli hby d2 k2 y2 ht1 ht2⟩
      · left
        rw [if_neg (show ¬ nI (T0 + (e - a)) ≤ 2400 from nI_ge (show 2400 < T0 + (e - a) by omega) (by omega)), if_neg (show ¬ (N0 + cnt ≤ 64 ∧ T0 + (e - a) ≤ 2400) from fun h => r2 h.2), if_pos (rfl : (0 : Int32) = 0)]
        unfold fX10_block_b363 fX10_fails fX1_fail
        rw [Option.bind_some, Option.bind_some, if_pos isb0]
        exact ⟨6, _, _, by decide, rfl, rfl, rfl, rfl, rfl, rfl, rfl, rfl⟩
    · left
      rw [if_pos (show (64 : Int32) < nI (N0 + cnt) from nI_lt (show 64 < N0 + cnt by omega) (by omega)), if_neg (show ¬ (N0 + cnt ≤ 64 ∧ T0 + (e - a) ≤ 2400) from fun h => r1 h.1), if_pos (rfl : (0 : Int32) = 0)]
      unfold fX10_block_b363 fX10_fails fX1_fail
      rw [Option.bind_some, Option.bind_some, if_pos isb0]
      exact ⟨6, _, _, by decide, rfl, rfl, rfl, rfl, rfl, rfl, rfl, rfl⟩
theorem block_eq {T k q e : Nat} {fw mt : Nat → Int32} (hm : ∀ k, k < T → mt k &&& 255 = nI (bw fw k)) (hT : T ≤ 6000) (hqe : q ≤ e) (he : e ≤ T) {tn ct ctm : Int64} {num has : Int32} (hn : NUM tn num) (hct : CTR ct ctm has) {pk pbl rm rtot : Int32} {pbw pe rs rby : Nat → Int32} {pt rt : Nat → Int64} (hrl : RLi pk pbl pbw pe pt rm rtot rs rt rby) (id hf hp hfa bl bls la ov : Int32) (hz sz : Nat → Int32) :
    (∃ (f : Int32) (X : Int32 × Int32 × Int32 × Int32 × Int32 × (Nat → Int32) × Int32 × Int32 × Int32 × (Nat → Int32) × (Nat → Int32) × (Nat → Int64)) (Y : Int32 × Int32 × Int32 × Int32 × Int32 × Int32 × (Nat → Int32) × (Nat → Int64) × (Nat → Int32) × (Nat → Int32)), 0 < f ∧ fX1_readBlock Fu hf hp bl tn ct la hz (nI T) 1501 fw pk 2400 pbl ov 601 pbw pe pt id (nI k) (nI q) (nI e) = some X ∧ X.1 = -1 ∧ X.2.1 = f ∧ X.2.2.1 = nI k ∧ fX10_block Fu rm rtot hf hfa bls num ctm has id (nI q) (nI e) mt rs rt rby sz (nI k) = some Y ∧ Y.1 = 0 ∧ Y.2.2.2.1 = f ∧ Y.2.2.2.2.1 = nI k) ∨
    (∃ (la' : Int32) (hz' : Nat → Int32) (pk' pbl' : Int32) (pbw' pe' : Nat → Int32) (pt' : Nat → Int64) (rm' rtot' : Int32) (rs' : Nat → Int32) (rt' : Nat → Int64) (rby' sz' : Nat → Int32), fX1_readBlock Fu hf hp bl tn ct la hz (nI T) 1501 fw pk 2400 pbl ov 601 pbw pe pt id (nI k) (nI q) (nI e) = some (nI e, hf, hp, bl + 1, la', hz', pk', pbl', ov, pbw', pe', pt') ∧ fX10_block Fu rm rtot hf hfa bls num ctm has id (nI q) (nI e) mt rs rt rby sz (nI k) = some (1, rm', rtot', hf, hfa, bls + 1, rs', rt', rby', sz') ∧ RLi pk' pbl' pbw' pe' pt' rm' rtot' rs' rt' rby') := by
  obtain ⟨nv, nv1, nv2, rfl, rfl⟩ := hn
  obtain ⟨N0, T0, zz, hN, hT0, e1, e2, e3, e4, hsz, hli, hby⟩ := hrl
  subst e1 e2 e3 e4
  unfold fX1_readBlock fX10_block
  rcases hct with ⟨h0, hc⟩ | ⟨h1, hcc, v, hv, hcv⟩
  · left
    rw [if_pos hc, if_pos h0]
    unfold fX1_fail fX10_fails
    rw [Option.bind_some, Option.bind_some, if_pos isb0]
    exact ⟨7, _, _, by decide, rfl, rfl, rfl, rfl, rfl, rfl, rfl, rfl⟩
  rw [if_neg (by rw [hcv]; exact lN_ne1 (by omega)), if_neg (by rw [h1]; decide), nm_eq]
  -- a VALUE's fault on both sides
  have bad : ∀ x2 : Int32, ∃ (f : Int32) (X : Int32 × Int32 × Int32 × Int32 × Int32 × (Nat → Int32) × Int32 × Int32 × Int32 × (Nat → Int32) × (Nat → Int32) × (Nat → Int64)) (Y : Int32 × Int32 × Int32 × Int32 × Int32 × Int32 × (Nat → Int32) × (Nat → Int64) × (Nat → Int32) × (Nat → Int32)), 0 < f ∧ fX1_readBlock_b60 Fu bl la hz (nI N0) (nI T0) ov pbw pe pt (nI k) = some X ∧ X.1 = -1 ∧ X.2.1 = f ∧ X.2.2.1 = nI k ∧ fX10_block_b87 Fu (nI N0) (nI T0) rs rt rby sz (nI k) x2 = some Y ∧ Y.1 = 0 ∧ Y.2.2.2.1 = f ∧ Y.2.2.2.2.1 = nI k := by
    intro x2
    unfold fX1_readBlock_b60 fX10_block_b87 fX1_fail fX10_fails
    rw [Option.bind_some, Option.bind_some, if_pos isb0]
    exact ⟨5, _, _, by decide, rfl, rfl, rfl, rfl, rfl, rfl, rfl, rfl⟩
  rcases Nat.lt_or_ge q e with hq | hq
  · obtain ⟨w1, w2, w3, w4⟩ := wid_b _ (bw_lt fw q)
    rw [if_pos (nI_lt hq (by omega)), rat_B Fu hm hT (by omega), Option.bind_some, len_r _ (bw_lt _ _), Option.bind_some, sizeWidth_c hT hq he, Option.bind_some]
    by_cases c9 : wid (bw fw q) = 9
    · left
      rw [if_pos c9, if_pos (show (0 : Int32) < 1 by decide), if_pos (show (8 : Int32) < nI (wid (bw fw q)) by rw [c9]; decide)]
      exact bad _
    rw [if_neg c9, if_neg (show ¬ (8 : Int32) < nI (wid (bw fw q)) from nI_nlt (show wid (bw fw q) ≤ 8 by omega) (show 8 < 2 ^ 31 by omega))]
    by_cases c2 : q + wid (bw fw q) ≤ e
    · rw [if_pos c2, if_neg (show ¬ nI (wid (bw fw q)) < 1 by rw [i1]; exact nI_nlt w1 (by omega)), sizeNumber_bw Fu (by unfold Fu; omega) hT (by omega) w1 (by omega), Option.bind_some, sizeAt_B Fu (by unfold Fu; omega) (bw_lt fw) hm hT (show q + wid (bw fw q) ≤ T by omega) w1 (by omega), Option.bind_some, nI_l (show nv < 2 ^ 31 by omega), pk_sub hqe, pk_sub (by omega), nI_add, i3, nI_add]
      by_cases c3 : q + wid (bw fw q) + 3 ≤ e
      · rw [if_neg (nI_nlt c3 (by omega)), if_pos (nI_le (show 3 ≤ e - q - wid (bw fw q) by omega) (by omega))]
        by_cases c4 : SZ (bw fw) q (wid (bw fw q)) = lN nv
        · rw [if_pos c4, if_pos c4]
          obtain ⟨p0, hp0⟩ : ∃ p0, p0 = q + wid (bw fw q) := ⟨_, rfl⟩
          rw [← hp0] at c3 ⊢
          have hb0 := bw_lt fw p0
          have hb1 := bw_lt fw (p0 + 1)
          have hfl := bw_lt fw (p0 + 2)
          have hh : fX8_highFirst Fu (nI T) 1501 fw (nI p0) 2 = some (lN (bw fw p0 * 256 + bw fw (p0 + 1))) := by
            have h2 := high8_bw Fu (T := T) (k := p0) (t := 2) (w := fw) hT (by omega) (by omega) (by unfold Fu; omega)
            have h3 : hiN (bw fw) p0 2 = bw fw p0 * 256 + bw fw (p0 + 1) := by
              show (0 * 256 + bw fw (p0 + 0)) * 256 + bw fw (p0 + 1) = _
              rw [Nat.add_zero]; omega
            rw [h3] at h2
            exact h2
          rw [nm_eq, hh, rat_B Fu hm hT (show p0 < T by omega), nI_1, rat_B Fu hm hT (show p0 + 1 < T by omega), i2, nI_add, rat_B Fu hm hT (show p0 + 2 < T by omega), at_bw Fu (show p0 + 2 < T by omega) (by omega) (by omega) (by omega)]
          simp only [nm_eq, Option.bind_some, lN_i]
          rw [acc32 (show bw fw p0 < 2 ^ 22 by omega) hb1, ← hcc]
          obtain ⟨tm, htm⟩ : ∃ tm : Int64, tm = ct + (nI (bw fw p0 * 256 + bw fw (p0 + 1))).toInt16.toInt32.toInt64 := ⟨_, rfl⟩
          rw [← htm, nI_add]
          obtain ⟨f1, f2⟩ := flT _ hfl
          have main : ∀ (ms s0 : Int32), ((nI (bw fw (p0 + 2)) &&& (ms ^^^ (-1)) = 0) ↔ (nI (bw fw (p0 + 2)) &&& 112 = 0 ∧ (s0 = 0 → nI (bw fw (p0 + 2)) &&& 129 = 0))) →
              (∃ (f : Int32) (X : Int32 × Int32 × Int32 × Int32 × Int32 × (Nat → Int32) × Int32 × Int32 × Int32 × (Nat → Int32) × (Nat → Int32) × (Nat → Int64)) (Y : Int32 × Int32 × Int32 × Int32 × Int32 × Int32 × (Nat → Int32) × (Nat → Int64) × (Nat → Int32) × (Nat → Int32)), 0 < f ∧ fX1_readBlock_b119 Fu hf hp bl la hz (nI T) 1501 fw (nI N0) 2400 (nI T0) ov 601 pbw pe pt (nI k) (nI q) (nI e) (nI (bw fw (p0 + 2))) tm (nI (wid (bw fw q))) ms = some X ∧ X.1 = -1 ∧ X.2.1 = f ∧ X.2.2.1 = nI k ∧ fX10_block_b150 Fu (nI N0) (nI T0) hf hfa (nI e) mt rs rt rby sz (nI k) (nI (p0 + 3)) (nI (bw fw (p0 + 2))) tm s0 (bls + 1) = some Y ∧ Y.1 = 0 ∧ Y.2.2.2.1 = f ∧ Y.2.2.2.2.1 = nI k) ∨
              (∃ (la' : Int32) (hz' : Nat → Int32) (pk' pbl' : Int32) (pbw' pe' : Nat → Int32) (pt' : Nat → Int64) (rm' rtot' : Int32) (rs' : Nat → Int32) (rt' : Nat → Int64) (rby' sz' : Nat → Int32), fX1_readBlock_b119 Fu hf hp bl la hz (nI T) 1501 fw (nI N0) 2400 (nI T0) ov 601 pbw pe pt (nI k) (nI q) (nI e) (nI (bw fw (p0 + 2))) tm (nI (wid (bw fw q))) ms = some (nI e, hf, hp, bl + 1, la', hz', pk', pbl', ov, pbw', pe', pt') ∧ fX10_block_b150 Fu (nI N0) (nI T0) hf hfa (nI e) mt rs rt rby sz (nI k) (nI (p0 + 3)) (nI (bw fw (p0 + 2))) tm s0 (bls + 1) = some (1, rm', rtot', hf, hfa, bls + 1, rs', rt', rby', sz') ∧ RLi pk' pbl' pbw' pe' pt' rm' rtot' rs' rt' rby') := by
            intro ms s0 hiff
            have bad2 : ∃ (f : Int32) (X : Int32 × Int32 × Int32 × Int32 × Int32 × (Nat → Int32) × Int32 × Int32 × Int32 × (Nat → Int32) × (Nat → Int32) × (Nat → Int64)) (Y : Int32 × Int32 × Int32 × Int32 × Int32 × Int32 × (Nat → Int32) × (Nat → Int64) × (Nat → Int32) × (Nat → Int32)), 0 < f ∧ fX1_readBlock_b147 Fu bl la hz (nI N0) (nI T0) ov pbw pe pt (nI k) = some X ∧ X.1 = -1 ∧ X.2.1 = f ∧ X.2.2.1 = nI k ∧ fX10_block_b190 Fu (nI N0) (nI T0) rs rt rby sz (nI k) (bls + 1) = some Y ∧ Y.1 = 0 ∧ Y.2.2.2.1 = f ∧ Y.2.2.2.2.1 = nI k := by
              unfold fX1_readBlock_b147 fX10_block_b190 fX1_fail fX10_fails
              rw [Option.bind_some, Option.bind_some, if_pos isb0]
              exact ⟨5, _, _, by decide, rfl, rfl, rfl, rfl, rfl, rfl, rfl, rfl⟩
            unfold fX1_readBlock_b119 fX10_block_b150
            by_cases t1 : tm < 0
            · rw [if_pos t1, if_pos t1]; exact Or.inl bad2
            rw [if_neg t1, if_neg t1]
            by_cases t2 : 1099511627775 < tm
            · rw [if_pos t2, if_pos t2]; exact Or.inl bad2
            rw [if_neg t2, if_neg t2]
            by_cases t3 : nI (bw fw (p0 + 2)) &&& (ms ^^^ (-1)) = 0
            · obtain ⟨u1, u2⟩ := hiff.mp t3
              rw [if_pos t3, if_pos u1]
              have hs0 : (if s0 = 0 then (if (nI (bw fw (p0 + 2)) &&& 129) = 0 then (fX10_block_b197 Fu (nI N0) (nI T0) hf hfa (nI e) mt rs rt rby sz (nI k) (nI (p0 + 3)) tm (nI (bw fw (p0 + 2))) (bls + 1)) else (fX10_block_b190 Fu (nI N0) (nI T0) rs rt rby sz (nI k) (bls + 1))) else (fX10_block_b197 Fu (nI N0) (nI T0) hf hfa (nI e) mt rs rt rby sz (nI k) (nI (p0 + 3)) tm (nI (bw fw (p0 + 2))) (bls + 1))) = fX10_block_b197 Fu (nI N0) (nI T0) hf hfa (nI e) mt rs rt rby sz (nI k) (nI (p0 + 3)) tm (nI (bw fw (p0 + 2))) (bls + 1) := by
                by_cases z0 : s0 = 0
                · rw [if_pos z0, if_pos (u2 z0)]
                · rw [if_neg z0]
              rw [hs0, laT _ hfl, nI_add, ← hp0, i3, nI_add]
              exact laces_eq hm hT he (show p0 + 3 ≤ e by omega) (by omega) hN hT0 hsz hli hby t1 (Int64.not_lt.mp t2) hf hp hfa (nI k) bl (bls + 1) ov hz sz (laT _ hfl)
            · rw [if_neg t3]
              left
              by_cases u1 : nI (bw fw (p0 + 2)) &&& 112 = 0
              · rw [if_pos u1]
                by_cases z0 : s0 = 0
                · rw [if_pos z0, if_neg (fun u2 => t3 (hiff.mpr ⟨u1, fun _ => u2⟩))]
                  exact bad2
                · exact absurd (hiff.mpr ⟨u1, fun z => absurd z z0⟩) t3
              · rw [if_neg u1]; exact bad2
          by_cases ci : id = 163
          · rw [if_pos ci, if_pos ci]
            exact main 143 1 ⟨fun h => ⟨f1.mp h, fun z => absurd z (by decide)⟩, fun h => f1.mpr h.1⟩
          · rw [if_neg ci, if_neg ci]
            exact main 14 0 ⟨fun h => ⟨(f2.mp h).1, fun _ => (f2.mp h).2⟩, fun h => f2.mpr ⟨h.1, h.2 rfl⟩⟩
        · rw [if_neg c4, if_neg c4]
          exact Or.inl (bad _)
      · left
        rw [if_pos (show nI e < nI (q + wid (bw fw q) + 3) from nI_lt (by omega) (by omega)), if_neg (nI_ge (show e - q - wid (bw fw q) < 3 by omega) (by omega)), ite_self]
        exact bad _
    · left
      rw [if_neg c2, if_pos (show (-1 : Int32) < 1 by decide), nI_add, i3, nI_add, if_pos (nI_lt (show e < q + wid (bw fw q) + 3 by omega) (by omega))]
      exact bad _
  · left
    rw [if_neg (nI_nlt hq (by omega)), sizeWidth_o Fu hq (by omega), Option.bind_some, if_pos (show (-1 : Int32) < 1 by decide)]
    unfold fX1_readBlock_b60 fX1_fail fX10_fails
    rw [Option.bind_some, Option.bind_some, if_pos isb0]
    exact ⟨5, _, _, by decide, rfl, rfl, rfl, rfl, rfl, rfl, rfl, rfl⟩
