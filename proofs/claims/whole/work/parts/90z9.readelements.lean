-- reading elements: the whole
theorem ok_readElements : OP_readElements Fu := by
  intro h_fault h_faultPlace h_clustersRead h_blocksRead a_length a_overfull c_aw m_packets mb_length mb_overfull c_mbw c_me c_mt e_fault e_place e_clusters e_blocks e_depth e_file e_target e_trackNumber e_clusterTime e_bodySize e_lacingAt c_ez eg_id eg_missingPlace eg_end eg_seen eg_tillCluster a_a a_m a_l M_taped M_many M_total M_readMany M_readTotal M_fault M_faultAt M_told M_toldAt M_clusterCount M_blockCount M_clusters M_blocks M_number M_clusterTime M_hasTime M_id M_from M_to M_unknown M_over c_Mtape c_Msize c_MreadSize c_Mtime c_MreadTime c_Mbytes c_MreadBytes c_Msizes o_length c_ow l_packets lb_length c_lbw c_le c_lt h_pagesRead M_outMany c_Mout M_pageCount c_MheadRow c_MinfoRow c_MtracksRow c_McodecRow s_length c_sw q0 hrel
  obtain ⟨⟨TA, hTA, e1, e2, hA⟩, hO, hL, ⟨hf1, hf2, hf3, hf4, hf5⟩, hC⟩ := id hrel
  unfold fX9_readElements fX10_readElements fX9_isOnTape fX9_isOnTape_b20
  by_cases h0 : q0 < 0
  · rw [if_pos h0, if_pos h0, if_pos isb0, Option.bind_some, if_pos rfl]
    exact ⟨_, _, rfl, rfl, rfl, Or.inl ⟨rfl, rfl, hrel⟩⟩
  rw [if_neg h0, if_neg h0]
  have e12 : M_taped = a_length := by rw [e1, e2]
  rw [e12]
  by_cases h1 : a_length < q0
  · rw [if_pos h1, if_neg (Int32.not_le.mpr h1), if_pos isb0, Option.bind_some, if_pos rfl]
    refine ⟨_, _, rfl, rfl, rfl, Or.inl ⟨rfl, rfl, ?_⟩⟩
    rw [e12] at hrel
    exact hrel
  rw [if_neg h1, if_pos (Int32.not_lt.mp h1), if_pos isb1, Option.bind_some, if_neg (by decide)]
  obtain ⟨n, hn, rfl⟩ := nI_of h0
  have hnT : n ≤ TA := by
    rw [e1, nI_ltI (by omega) hn] at h1; omega
  unfold fX4_empty fX8_empty fX10_begin
  rw [Option.bind_some, Option.bind_some, Option.bind_some]
  dsimp only
  have hm : ∀ k, k < TA → c_Mtape k &&& 255 = nI (bw c_aw k) := fun k hk => by rw [← hA k hk, rb_bw]
  have hop : fX1_openLevel Fu 0 (-1) 0 0 (-1) e_bodySize eg_id eg_missingPlace eg_end eg_seen eg_tillCluster 0 (nI n) 0 (nI n) = some (0, 0, -1, 0, 1, -1, upd eg_id 0 0, upd eg_missingPlace 0 (nI n), upd eg_end 0 (nI n), upd eg_seen 0 0, upd eg_tillCluster 0 0) := by
    unfold fX1_openLevel fX1_openLevel_b115
    rw [if_pos (show (0 : Int32) < 5 by decide), if_pos (show gin 0 5 = true by decide)]
    simp only [nm_eq]
    rw [if_neg (show ¬ (0 : Int32) = 524531317 by decide)]
    rfl
  unfold fX1_read fX10_elements_v4
  rw [hop, Option.bind_some, e1]
  dsimp only
  have hev := ev4 hm hTA a_a a_m 0 n 0 0 (nI n) hnT rfl (Or.inl rfl) n 0 0 Fu Fu 0 0 (-1) (-1) e_bodySize e_lacingAt c_ez (upd eg_id 0 0) (upd eg_missingPlace 0 (nI n)) (upd eg_end 0 (nI n)) (upd eg_seen 0 0) (upd eg_tillCluster 0 0) 0 0 c_mbw c_me c_mt 0 0 0 0 0 M_number M_clusterTime M_hasTime M_id M_from M_to M_unknown M_over c_MreadSize c_MreadTime c_MreadBytes c_Msizes (by omega) (by omega) rfl (by omega) (by unfold Fu; omega) rfl rfl rfl rfl (LV_0 0) (fun z => absurd z (by decide)) (fun z => by omega) rfl rfl (fun z => by omega) ⟨0, 0, fun _ => 0, by omega, by omega, rfl, rfl, rfl, rfl, rfl, fun i hi => by omega, fun j hj => by omega⟩
  rcases hev with ⟨f, fp, X, Y, f0, z1, z2, z3, z4, z5, z6, z7⟩ | ⟨k', step', n1', cl', bl', tn', ct', bs', la', hz', ids', mp', en', seen', till', pk', pbl', pbw', pe', pt', rm', rtot', cls', bls', num', ctm', has', rid', rfr', rto', run', rs', rt', rby', sz', q1, q2, q3, q4, q5, q6, q7, q8, q9, q10, q11, q12, q13, q14, q15⟩
  · obtain ⟨x1, x2, x3, x4, x5, x6, x7, x8, x9, x10, x11, x12, x13, x14, x15, x16, x17, x18, x19, x20, x21, x22, x23⟩ := X
    obtain ⟨y1, y2, y3, y4, y5, y6, y7, y8, y9, y10, y11, y12, y13, y14, y15, y16, y17, y18, y19⟩ := Y
    dsimp only at z2 z3 z5 z6 z7
    subst z2 z3 z5
    have z1' : fX1_read_b62 Fu (nI TA) 1501 c_aw 2400 601 a_a a_m Fu 0 0 c_ez 0 0 0 c_mbw c_me c_mt 0 (-1) 0 0 1 (-1) (-1) e_bodySize e_lacingAt (upd eg_id 0 0) (upd eg_missingPlace 0 (nI n)) (upd eg_end 0 (nI n)) (upd eg_seen 0 0) (upd eg_tillCluster 0 0) = _ := z1
    have z4' : fX10_elements_v4_b6 Fu c_Mtape (nI n) (nI n) 0 0 Fu 0 0 0 0 0 (-1) 0 0 M_number M_clusterTime M_hasTime M_id M_from M_to M_unknown M_over c_MreadSize c_MreadTime c_MreadBytes c_Msizes = _ := z4
    have hf0 := pos_ne f0
    rw [z1', z4', Option.bind_some, Option.bind_some]
    dsimp only
    rw [if_neg hf0, if_pos (rfl : (0 : Int32) = 0)]
    unfold fX9_readElements_b75 fX9_readElements_b97 fX9_takeSpareList fX8_empty fX10_readElements_b57 fX10_readElements_b73
    rw [if_neg hf0, Option.bind_some, if_neg hf0, if_pos (rfl : (0 : Int32) = 0), z6, ends_bad Fu f0, Option.bind_some, Option.bind_some]
    exact ⟨_, _, rfl, rfl, rfl, Or.inl ⟨rfl, rfl, RBy_0 _ _, hO, hL, ⟨rfl, z7.symm, hf3, rfl, rfl⟩, hC⟩⟩
  · obtain ⟨n2, rfl⟩ : ∃ n2, n1' = n2 + 1 := ⟨n1' - 1, by unfold Fu at q6; omega⟩
    rw [CL_done TA c_aw a_a a_m n2 step' k' (by omega)] at q1
    have q1' : fX1_read_b62 Fu (nI TA) 1501 c_aw 2400 601 a_a a_m Fu 0 0 c_ez 0 0 0 c_mbw c_me c_mt 0 (-1) 0 0 1 (-1) (-1) e_bodySize e_lacingAt (upd eg_id 0 0) (upd eg_missingPlace 0 (nI n)) (upd eg_end 0 (nI n)) (upd eg_seen 0 0) (upd eg_tillCluster 0 0) = _ := q1
    have q2' : fX10_elements_v4_b6 Fu c_Mtape (nI n) (nI n) 0 0 Fu 0 0 0 0 0 (-1) 0 0 M_number M_clusterTime M_hasTime M_id M_from M_to M_unknown M_over c_MreadSize c_MreadTime c_MreadBytes c_Msizes = _ := q2
    obtain ⟨ms', mti', mb', g1, g2, g3⟩ := ends_RLi Fu (by unfold Fu; omega) M_many M_total (-1) c_Msize c_Mtime c_Mbytes q12
    rw [q1', q2', Option.bind_some, Option.bind_some]
    dsimp only
    rw [if_pos (rfl : (0 : Int32) = 0), if_neg (show ¬ (1 : Int32) = 0 by decide)]
    unfold fX9_readElements_b75 fX9_readElements_b97 fX9_takeSpareList fX8_empty fX10_readElements_b57 fX10_readElements_b73
    rw [if_pos (rfl : (0 : Int32) = 0), Option.bind_some, if_pos (rfl : (0 : Int32) = 0), if_neg (show ¬ (1 : Int32) = 0 by decide), g1, Option.bind_some, Option.bind_some]
    exact ⟨_, _, rfl, rfl, g3, Or.inr ⟨rfl, rfl, RBy_0 _ _, hO, g2, ⟨rfl, rfl, hf3, q9, q10⟩, hC⟩⟩
