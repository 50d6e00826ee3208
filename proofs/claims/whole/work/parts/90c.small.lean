-- small calls: clear, patch, turn
theorem i0 : (0 : Int32) = nI 0 := rfl
theorem i1 : (1 : Int32) = nI 1 := rfl
theorem i2 : (2 : Int32) = nI 2 := rfl
theorem i3 : (3 : Int32) = nI 3 := rfl
theorem i4 : (4 : Int32) = nI 4 := rfl
theorem i5 : (5 : Int32) = nI 5 := rfl
theorem i6 : (6 : Int32) = nI 6 := rfl
theorem i7 : (7 : Int32) = nI 7 := rfl
theorem i8 : (8 : Int32) = nI 8 := rfl
theorem i9 : (9 : Int32) = nI 9 := rfl
theorem i14 : (14 : Int32) = nI 14 := rfl
theorem i15 : (15 : Int32) = nI 15 := rfl
theorem i16 : (16 : Int32) = nI 16 := rfl
theorem i18 : (18 : Int32) = nI 18 := rfl
theorem i20 : (20 : Int32) = nI 20 := rfl
theorem i22 : (22 : Int32) = nI 22 := rfl
theorem i24 : (24 : Int32) = nI 24 := rfl
theorem i26 : (26 : Int32) = nI 26 := rfl
theorem i27 : (27 : Int32) = nI 27 := rfl
theorem i28 : (28 : Int32) = nI 28 := rfl
theorem i31 : (31 : Int32) = nI 31 := rfl
theorem i32 : (32 : Int32) = nI 32 := rfl
theorem i56 : (56 : Int32) = nI 56 := rfl
theorem i64 : (64 : Int32) = nI 64 := rfl
theorem i100 : (100 : Int32) = nI 100 := rfl
theorem i126 : (126 : Int32) = nI 126 := rfl
theorem i127 : (127 : Int32) = nI 127 := rfl
theorem i128 : (128 : Int32) = nI 128 := rfl
theorem i129 : (129 : Int32) = nI 129 := rfl
theorem i255 : (255 : Int32) = nI 255 := rfl
theorem i256 : (256 : Int32) = nI 256 := rfl
theorem i2400 : (2400 : Int32) = nI 2400 := rfl
theorem i5980 : (5980 : Int32) = nI 5980 := rfl
theorem i6000 : (6000 : Int32) = nI 6000 := rfl
theorem i12000 : (12000 : Int32) = nI 12000 := rfl
theorem i32767 : (32767 : Int32) = nI 32767 := rfl
def wset (w : Nat → Int32) (k : Nat) (v : Int32) : Nat → Int32 := upd w (k / 4) (wch (w (k / 4)) (k % 4) v)
theorem rb_wset (w : Nat → Int32) (k : Nat) (v : Int32) (j : Nat) : rb (wset w k v) j = if j = k then v &&& 255 else rb w j := rb_upd w k v j
theorem and_255_255 (x : Int32) : x &&& 255 &&& 255 = x &&& 255 := by rw [Int32.and_assoc]; rfl
theorem rb_255 (w : Nat → Int32) (k : Nat) : rb w k &&& 255 = rb w k := by unfold rb; rw [and_255_255]
theorem bp_2 (x : Int32) : x.toInt8.toInt32.toInt8.toInt32 &&& 255 = x &&& 255 := by rw [bp_b0, bp_b0]
theorem upd_app (f : Nat → Int32) (k : Nat) (x : Int32) (j : Nat) : upd f k x j = if j = k then x else f j := by
  by_cases h : j = k
  · rw [h, pk_us, if_pos rfl]
  · rw [pk_un h, if_neg h]
theorem updL_app (f : Nat → Int64) (k : Nat) (x : Int64) (j : Nat) : vp_updL f k x j = if j = k then x else f j := by
  by_cases h : j = k
  · rw [h, pk_uLs, if_pos rfl]
  · rw [pk_uLn h, if_neg h]
theorem ok_clear : OP_clear Fu := by
  intro l_packets M_many a_length c_aw o_length c_ow lb_length c_lbw c_le c_lt h_fault h_faultPlace h_pagesRead h_clustersRead h_blocksRead M_taped c_Mtape M_outMany c_Mout M_total c_Msize c_Mtime c_Mbytes M_told M_toldAt M_pageCount M_clusterCount M_blockCount c_MheadRow c_MinfoRow c_MtracksRow c_McodecRow hrel
  obtain ⟨hA, hO, ⟨N, T, sz, hN, hT, e5, e6, e7, e8, hps, hli, hby⟩, hf, hC⟩ := id hrel
  refine ⟨(l_packets, 0, 0, 0), (M_many, 0, 0), rfl, rfl, by rw [e5, e6], hA, hO, ⟨0, 0, sz, by omega, by omega, rfl, rfl, rfl, rfl, rfl, ?_, ?_⟩, hf, hC⟩
  · intro i hi; omega
  · intro k hk; omega
theorem ok_patch : OP_patch Fu := by
  intro a_length c_aw M_taped c_Mtape o_length c_ow l_packets lb_length c_lbw c_le c_lt h_fault h_faultPlace h_pagesRead h_clustersRead h_blocksRead M_outMany c_Mout M_many M_total c_Msize c_Mtime c_Mbytes M_told M_toldAt M_pageCount M_clusterCount M_blockCount c_MheadRow c_MinfoRow c_MtracksRow c_McodecRow q0 q1 hrel
  obtain ⟨⟨TA, hTA, e1, e2, hA⟩, hO, hL, hf, hC⟩ := id hrel
  subst e1 e2
  unfold fX9_patch fX10_patch
  rcases pk_ix q0 (n := TA) (by omega) with h | h | ⟨j, hj, rfl⟩
  · rw [change_neg _ h, if_pos h]; exact ⟨(0, c_aw), (0, c_Mtape), rfl, rfl, rfl, hrel⟩
  · rw [change_ge _ h]
    refine ⟨(0, c_aw), (0, c_Mtape), rfl, ?_, rfl, hrel⟩
    by_cases h0 : q0 < 0
    · rw [if_pos h0]
    · rw [if_neg h0, if_neg (by rw [Int32.not_lt]; exact h)]
  · rw [change_in _ q1 hj (by omega) (by omega) (by omega), if_neg (nI_pos (by omega)), if_pos (nI_lt hj (by omega)), if_pos (gin_nI (by omega) (by omega)), nI_clamp (by omega)]
    refine ⟨(1, _), (1, _), rfl, rfl, rfl, ⟨TA, hTA, rfl, rfl, fun k hk => ?_⟩, hO, hL, hf, hC⟩
    show rb (wset c_aw j q1) k = upd c_Mtape j _ k &&& 255
    rw [rb_wset, upd_app]
    by_cases q : k = j
    · rw [if_pos q, if_pos q, bp_2]
    · rw [if_neg q, if_neg q, hA k hk]
theorem turn_loop (F : Nat) {T : Nat} (hT : T ≤ 6000) (mo : Nat → Int32) : ∀ (n j : Nat) (f : Nat → Int32), j ≤ T → T < j + n → ∃ g, fX10_turn_b2 F (nI T) mo n (nI j) f = some (nI T, nI T, g) ∧ ∀ k, k < T → g k = if j ≤ k then (mo k).toInt8.toInt32 else f k := by
  intro n
  induction n with
  | zero => intro j f h1 h2; omega
  | succ n ih =>
    intro j f h1 h2
    unfold fX10_turn_b2 nm
    rcases Nat.lt_or_ge j T with q | q
    · rw [if_neg (nI_ge q (by omega)), if_pos (gin_nI (by omega) (by omega)), if_pos (gin_nI (by omega) (by omega)), nI_clamp (by omega)]
      dsimp only
      rw [nI_1]
      obtain ⟨g, h3, h4⟩ := ih (j + 1) (upd f j (mo j).toInt8.toInt32) (by omega) (by omega)
      refine ⟨g, h3, fun k hk => ?_⟩
      rw [h4 k hk, upd_app]
      by_cases c1 : j + 1 ≤ k
      · rw [if_pos c1, if_pos (by omega)]
      · rw [if_neg c1]
        by_cases c2 : k = j
        · rw [if_pos c2, if_pos (by omega), c2]
        · rw [if_neg c2, if_neg (by omega)]
    · rw [if_pos (nI_le q (by omega))]
      exact ⟨f, rfl, fun k hk => by rw [if_neg (by omega)]⟩
theorem ok_turn : OP_turn Fu := by
  intro c_aw o_length c_ow M_outMany c_Mtape c_Mout a_length l_packets lb_length c_lbw c_le c_lt h_fault h_faultPlace h_pagesRead h_clustersRead h_blocksRead M_taped M_many M_total c_Msize c_Mtime c_Mbytes M_told M_toldAt M_pageCount M_clusterCount M_blockCount c_MheadRow c_MinfoRow c_MtracksRow c_McodecRow hrel
  obtain ⟨hA, ⟨TO, hTO, e3, e4, hO⟩, hL, hf, hC⟩ := id hrel
  subst e3 e4
  obtain ⟨g, h3, h4⟩ := turn_loop Fu hTO c_Mout Fu 0 c_Mtape (by omega) (by unfold Fu; omega)
  have e1 : (if (nI 1501) < (nI 1501) then (nI 1501) else (nI 1501)) = nI 1501 := by decide +kernel
  have e2 : gcp (nI 1501) 1501 1501 = true := by decide +kernel
  have e5 : fX9_turn Fu 6000 1501 c_aw (nI TO) 1501 c_ow = some (nI TO, nI TO, 0, va_cpy c_ow c_aw 0 0 1501) := by
    unfold fX9_turn fX8_becomeLike nm
    rw [e1, if_pos e2, nI_clamp (by omega)]
    dsimp only
    simp (disch := omega) only [i6000, nI_leI, nI_ltI, if_pos, if_neg]
    rfl
  refine ⟨_, _, e5, h3, rfl, ⟨TO, hTO, rfl, rfl, fun k hk => ?_⟩, ⟨TO, hTO, rfl, rfl, hO⟩, hL, hf, hC⟩
  show rb (va_cpy c_ow c_aw 0 0 1501) k = g k &&& 255
  rw [h4 k hk, if_pos (by omega), bp_b0, ← hO k hk]
  unfold rb
  rw [pk_cpy_in (by omega) (by omega), Nat.zero_add, Nat.sub_zero]
