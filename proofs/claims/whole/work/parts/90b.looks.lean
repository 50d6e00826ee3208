-- the calls that only look
theorem rd_ok {P : Prop} {a b : Option Int32} (h : ∃ r, a = some r ∧ b = some r) (hp : P) : ∃ r9 r10 : Int32, a = some r9 ∧ b = some r10 ∧ r9 = r10 ∧ P := by
  obtain ⟨r, h1, h2⟩ := h
  exact ⟨r, r, h1, h2, rfl, hp⟩
theorem rd_okl {P : Prop} {a b : Option Int64} (h : ∃ r, a = some r ∧ b = some r) (hp : P) : ∃ r9 r10 : Int64, a = some r9 ∧ b = some r10 ∧ r9 = r10 ∧ P := by
  obtain ⟨r, h1, h2⟩ := h
  exact ⟨r, r, h1, h2, rfl, hp⟩
theorem ok_wrong : OP_wrong Fu := by
  intro h_fault h_faultPlace M_told M_toldAt a_length c_aw o_length c_ow l_packets lb_length c_lbw c_le c_lt h_pagesRead h_clustersRead h_blocksRead M_taped c_Mtape M_outMany c_Mout M_many M_total c_Msize c_Mtime c_Mbytes M_pageCount M_clusterCount M_blockCount c_MheadRow c_MinfoRow c_MtracksRow c_McodecRow q0 hrel
  refine rd_ok ?_ hrel
  obtain ⟨hA, hO, hL, ⟨f1, f2, f3, f4, f5⟩, hC⟩ := id hrel
  subst f1 f2
  unfold fX9_wrong fX10_wrong fX10_wrong_b24
  by_cases h0 : q0 = 0
  · simp only [if_pos h0]; exact ⟨_, rfl, rfl⟩
  · simp only [if_neg h0]
    by_cases h1 : q0 = 1
    · simp only [if_pos h1]; exact ⟨_, rfl, rfl⟩
    · simp only [if_neg h1]; exact ⟨_, rfl, rfl⟩
theorem ok_count : OP_count Fu := by
  intro h_pagesRead h_clustersRead h_blocksRead a_length o_length l_packets lb_length M_taped M_outMany M_many M_total M_pageCount M_clusterCount M_blockCount c_aw c_ow c_lbw c_le c_lt h_fault h_faultPlace c_Mtape c_Mout c_Msize c_Mtime c_Mbytes M_told M_toldAt c_MheadRow c_MinfoRow c_MtracksRow c_McodecRow q0 hrel
  refine rd_ok ?_ hrel
  obtain ⟨⟨TA, _, e1, e2, _⟩, ⟨TO, _, e3, e4, _⟩, ⟨N, T, sz, _, _, e5, e6, e7, e8, _⟩, ⟨f1, f2, f3, f4, f5⟩, hC⟩ := id hrel
  have g1 : a_length = M_taped := e1.trans e2.symm
  have g2 : o_length = M_outMany := e3.trans e4.symm
  have g3 : l_packets = M_many := e5.trans e6.symm
  have g4 : lb_length = M_total := e7.trans e8.symm
  unfold fX9_count fX10_count
  rw [g1, g2, g3, g4, f3, f4, f5]
  have h : ∃ r, (if q0 = 0 then (some M_many) else if q0 = 1 then (some M_total) else if q0 = 2 then (some M_outMany) else if q0 = 3 then (some M_taped) else if q0 = 4 then (some M_pageCount) else if q0 = 5 then (some M_clusterCount) else if q0 = 6 then (some M_blockCount) else (some (-1))) = some r := by
    repeat' split
    all_goals exact ⟨_, rfl⟩
  obtain ⟨r, hr⟩ := h
  exact ⟨r, hr, hr⟩
theorem ok_out : OP_out Fu := by
  intro o_length c_ow M_outMany c_Mout a_length c_aw l_packets lb_length c_lbw c_le c_lt h_fault h_faultPlace h_pagesRead h_clustersRead h_blocksRead M_taped c_Mtape M_many M_total c_Msize c_Mtime c_Mbytes M_told M_toldAt M_pageCount M_clusterCount M_blockCount c_MheadRow c_MinfoRow c_MtracksRow c_McodecRow q0 hrel
  refine rd_ok ?_ hrel
  obtain ⟨hA, ⟨TO, hTO, e3, e4, hO⟩, hL, hf, hC⟩ := id hrel
  subst e3 e4
  unfold fX9_out fX10_out fX10_out_b26
  rcases pk_ix q0 (n := TO) (by omega) with h | h | ⟨j, hj, rfl⟩
  · rw [at_neg _ h, if_pos h]; exact ⟨_, rfl, rfl⟩
  · rw [at_ge _ h]
    by_cases h0 : q0 < 0
    · rw [if_pos h0]; exact ⟨_, rfl, rfl⟩
    · rw [if_neg h0, if_pos h]; exact ⟨_, rfl, rfl⟩
  · rw [at_in _ hj (by omega) (by omega) (by omega), if_neg (nI_pos (by omega)), if_neg (nI_ge hj (by omega)), if_pos (gin_nI (by omega) (by omega)), nI_clamp (by omega), ← hO j hj]
    exact ⟨_, rfl, rfl⟩
-- the LIST
theorem holds_in (F : Nat) {N i : Nat} (hi : i < N) (hN : N < 2 ^ 31) : fX4_holds F (nI N) (nI i) = some 1 := by
  unfold fX4_holds fX4_holds_b17
  rw [if_neg (nI_pos (by omega)), if_neg (nI_ge hi hN), if_pos isb1]
theorem holds_neg (F : Nat) {pk q : Int32} (h : q < 0) : fX4_holds F pk q = some 0 := by
  unfold fX4_holds fX4_holds_b17
  rw [if_pos h, if_pos isb0]
theorem holds_ge (F : Nat) {pk q : Int32} (h : pk ≤ q) : fX4_holds F pk q = some 0 := by
  unfold fX4_holds fX4_holds_b17
  by_cases h0 : q < 0
  · rw [if_pos h0, if_pos isb0]
  · rw [if_neg h0, if_pos h, if_pos isb0]
theorem nI_m1 : nI 0 - 1 < 0 := by decide
theorem beginOf_in (F : Nat) {N i : Nat} {e : Nat → Int32} {sz : Nat → Nat} (hN : N ≤ 64) (hi : i ≤ N) (he : ∀ i, i < N → e i = nI (psum sz (i + 1))) : fX4_beginOf F (nI N) e (nI i) = some (nI (psum sz i)) := by
  unfold fX4_beginOf fX4_beginOf_b22 nm
  cases i with
  | zero =>
    rw [holds_neg F nI_m1]
    rfl
  | succ i =>
    rw [show nI (i + 1) - 1 = nI i from nI_pred i, holds_in F (by omega) (by omega)]
    rw [Option.bind_some, if_neg (by decide)]
    dsimp only
    rw [if_pos (gin_nI (by omega) (by omega)), nI_clamp (by omega), he i (by omega)]
theorem bytesOf_in (F : Nat) {N i : Nat} {e : Nat → Int32} {sz : Nat → Nat} (hN : N ≤ 64) (hi : i < N) (he : ∀ i, i < N → e i = nI (psum sz (i + 1))) : fX4_bytesOf F (nI N) e (nI i) = some (nI (sz i)) := by
  unfold fX4_bytesOf fX4_bytesOf_b24
  rw [holds_in F hi (by omega)]
  rw [Option.bind_some, if_neg (by decide), if_pos (gin_nI (by omega) (by omega)), beginOf_in F hN (by omega) he, nI_clamp (by omega), he i hi]
  show some (nI (psum sz i + sz i) - nI (psum sz i)) = _
  rw [pk_sub (by omega)]
  congr 2
  omega
theorem bytesOf_out (F : Nat) {pk : Int32} {e : Nat → Int32} {q : Int32} (h : fX4_holds F pk q = some 0) : fX4_bytesOf F pk e q = some (-1) := by
  unfold fX4_bytesOf fX4_bytesOf_b24
  rw [h]
  rfl
theorem ok_size : OP_size Fu := by
  intro l_packets c_le M_many c_Msize a_length c_aw o_length c_ow lb_length c_lbw c_lt h_fault h_faultPlace h_pagesRead h_clustersRead h_blocksRead M_taped c_Mtape M_outMany c_Mout M_total c_Mtime c_Mbytes M_told M_toldAt M_pageCount M_clusterCount M_blockCount c_MheadRow c_MinfoRow c_MtracksRow c_McodecRow q0 hrel
  refine rd_ok ?_ hrel
  obtain ⟨hA, hO, ⟨N, T, sz, hN, hT, e5, e6, e7, e8, hps, hli, hby⟩, hf, hC⟩ := id hrel
  subst e5 e6
  unfold fX9_size fX10_size fX10_size_b22
  rcases pk_ix q0 (n := N) (by omega) with h | h | ⟨j, hj, rfl⟩
  · rw [bytesOf_out _ (holds_neg _ h), if_pos h]; exact ⟨_, rfl, rfl⟩
  · rw [bytesOf_out _ (holds_ge _ h)]
    by_cases h0 : q0 < 0
    · rw [if_pos h0]; exact ⟨_, rfl, rfl⟩
    · rw [if_neg h0, if_pos h]; exact ⟨_, rfl, rfl⟩
  · rw [bytesOf_in _ hN hj (fun i hi => (hli i hi).2.1), if_neg (nI_pos (by omega)), if_neg (nI_ge hj (by omega)), if_pos (gin_nI (by omega) (by omega)), nI_clamp (by omega), (hli j hj).1]
    exact ⟨_, rfl, rfl⟩
theorem timeOf_in (F : Nat) {N i : Nat} {t : Nat → Int64} (hN : N ≤ 64) (hi : i < N) : fX4_timeOf F (nI N) t (nI i) = some (t i) := by
  unfold fX4_timeOf fX4_timeOf_b20
  rw [holds_in F hi (by omega)]
  rw [Option.bind_some, if_neg (by decide), if_pos (gin_nI (by omega) (by omega)), nI_clamp (by omega)]
theorem timeOf_out (F : Nat) {pk : Int32} {t : Nat → Int64} {q : Int32} (h : fX4_holds F pk q = some 0) : fX4_timeOf F pk t q = some (-1) := by
  unfold fX4_timeOf fX4_timeOf_b20
  rw [h]
  rfl
theorem ok_time : OP_time Fu := by
  intro l_packets c_lt M_many c_Mtime a_length c_aw o_length c_ow lb_length c_lbw c_le h_fault h_faultPlace h_pagesRead h_clustersRead h_blocksRead M_taped c_Mtape M_outMany c_Mout M_total c_Msize c_Mbytes M_told M_toldAt M_pageCount M_clusterCount M_blockCount c_MheadRow c_MinfoRow c_MtracksRow c_McodecRow q0 hrel
  refine rd_okl ?_ hrel
  obtain ⟨hA, hO, ⟨N, T, sz, hN, hT, e5, e6, e7, e8, hps, hli, hby⟩, hf, hC⟩ := id hrel
  subst e5 e6
  unfold fX9_time fX10_time fX10_time_b21 fX10_time_b24
  rcases pk_ix q0 (n := N) (by omega) with h | h | ⟨j, hj, rfl⟩
  · rw [timeOf_out _ (holds_neg _ h), if_pos h]; exact ⟨_, rfl, rfl⟩
  · rw [timeOf_out _ (holds_ge _ h)]
    by_cases h0 : q0 < 0
    · rw [if_pos h0]; exact ⟨_, rfl, rfl⟩
    · rw [if_neg h0, if_pos h]; exact ⟨_, rfl, rfl⟩
  · rw [timeOf_in _ hN hj, if_neg (nI_pos (by omega)), if_neg (nI_ge hj (by omega)), if_pos (gin_nI (by omega) (by omega)), nI_clamp (by omega), (hli j hj).2.2.1]
    exact ⟨_, rfl, rfl⟩
theorem psum_le {sz : Nat → Nat} {i N : Nat} (h : i ≤ N) : psum sz i ≤ psum sz N := by
  induction N with
  | zero => rw [show i = 0 by omega]; exact Nat.le_refl _
  | succ N ih =>
    rcases Nat.lt_or_ge i (N + 1) with q | q
    · exact Nat.le_trans (ih (by omega)) (Nat.le_add_right _ _)
    · rw [show i = N + 1 by omega]; exact Nat.le_refl _
theorem octet_loop (F : Nat) {N T : Nat} {ms mb : Nat → Int32} {sz : Nat → Nat} {i k : Nat} (hN : N ≤ 64) (hT : T ≤ 2400) (hps : psum sz N = T) (hms : ∀ i, i < N → ms i = nI (sz i)) (hi : i < N) (hk : k < sz i) : ∀ (n j : Nat), j ≤ i → i < j + n → fX10_octet_b33 F ms mb (nI i) (nI k) n (nI j) (nI (psum sz j)) = some (mb (psum sz i + k) &&& 255) := by
  have hle : psum sz i + k < T := by
    have h1 : psum sz (i + 1) ≤ psum sz N := psum_le (by omega)
    have h2 : psum sz (i + 1) = psum sz i + sz i := rfl
    omega
  intro n
  induction n with
  | zero => intro j h1 h2; omega
  | succ n ih =>
    intro j h1 h2
    unfold fX10_octet_b33 nm
    rcases Nat.lt_or_ge j i with q | q
    · rw [if_neg (nI_ge q (by omega)), if_pos (gin_nI (by omega) (by omega)), nI_clamp (by omega), hms j (by omega), nI_add, nI_1]
      exact ih (j + 1) (by omega) (by omega)
    · have hj : j = i := by omega
      subst hj
      rw [if_pos (nI_le (Nat.le_refl _) (by omega)), nI_add]
      simp only []
      rw [if_pos (gin_nI (by omega) (by omega)), nI_clamp (by omega)]
theorem ok_octet : OP_octet Fu := by
  intro l_packets lb_length c_lbw c_le M_many c_Msize c_Mbytes a_length c_aw o_length c_ow c_lt h_fault h_faultPlace h_pagesRead h_clustersRead h_blocksRead M_taped c_Mtape M_outMany c_Mout M_total c_Mtime M_told M_toldAt M_pageCount M_clusterCount M_blockCount c_MheadRow c_MinfoRow c_MtracksRow c_McodecRow q0 q1 hrel
  refine rd_ok ?_ hrel
  obtain ⟨hA, hO, ⟨N, T, sz, hN, hT, e5, e6, e7, e8, hps, hli, hby⟩, hf, hC⟩ := id hrel
  subst e5 e6 e7
  unfold fX9_octet fX4_byteOf fX10_octet
  rcases pk_ix q0 (n := N) (by omega) with h | h | ⟨j, hj, rfl⟩
  · rw [bytesOf_out _ (holds_neg _ h), if_pos h]
    by_cases h1 : q1 < 0
    · rw [if_pos h1]; exact ⟨_, rfl, rfl⟩
    · rw [if_neg h1]
      show ∃ r, ((if q1 < -1 then _ else some (-1)).bind _) = _ ∧ _
      rw [if_neg (by intro q; exact h1 (Int32.lt_trans q (by decide)))]
      exact ⟨_, rfl, rfl⟩
  · rw [bytesOf_out _ (holds_ge _ h)]
    have e0 : (if q0 < 0 then (some (-1 : Int32)) else if nI N ≤ q0 then some (-1) else if q1 < 0 then some (-1) else if gin q0 64 = true then if q1 < c_Msize q0.toNatClampNeg then fX10_octet_b33 Fu c_Msize c_Mbytes q0 q1 Fu 0 0 else some (-1) else none) = some (-1) := by
      by_cases h0 : q0 < 0
      · rw [if_pos h0]
      · rw [if_neg h0, if_pos h]
    rw [e0]
    by_cases h1 : q1 < 0
    · rw [if_pos h1]; exact ⟨_, rfl, rfl⟩
    · rw [if_neg h1]
      show ∃ r, ((if q1 < -1 then _ else some (-1)).bind _) = _ ∧ _
      rw [if_neg (by intro q; exact h1 (Int32.lt_trans q (by decide)))]
      exact ⟨_, rfl, rfl⟩
  · rw [if_neg (nI_pos (by omega)), if_neg (nI_ge hj (by omega)), if_pos (gin_nI (by omega) (by omega)), nI_clamp (by omega), (hli j hj).1, bytesOf_in _ hN hj (fun i hi => (hli i hi).2.1)]
    have hz : psum sz (j + 1) ≤ psum sz N := psum_le (by omega)
    have hz2 : psum sz (j + 1) = psum sz j + sz j := rfl
    by_cases h1 : q1 < 0
    · rw [if_pos h1, if_pos h1]; exact ⟨_, rfl, rfl⟩
    · rw [if_neg h1, if_neg h1]
      show ∃ r, ((if q1 < nI (sz j) then _ else some (-1)).bind _) = _ ∧ _
      by_cases h2 : q1 < nI (sz j)
      · rw [if_pos h2, if_pos h2]
        obtain ⟨k, hk, rfl⟩ := nI_of h1
        have hk2 : k < sz j := (nI_ltI hk (by omega)).mp h2
        rw [beginOf_in _ hN (by omega) (fun i hi => (hli i hi).2.1)]
        show ∃ r, (((fX8_at Fu (nI T) 601 c_lbw (nI (psum sz j) + nI k)).bind _).bind _) = _ ∧ _
        rw [nI_add, at_in _ (by omega) (by omega) (by omega) (by omega)]
        have := octet_loop Fu (mb := c_Mbytes) hN hT hps (fun i hi => (hli i hi).1) hj hk2 Fu 0 (by omega) (by unfold Fu; omega)
        rw [show psum sz 0 = 0 from rfl, nI_0] at this
        rw [this, ← hby _ (by omega)]
        exact ⟨_, rfl, rfl⟩
      · rw [if_neg h2, if_neg h2]; exact ⟨_, rfl, rfl⟩
