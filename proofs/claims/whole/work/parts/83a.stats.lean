theorem mem_dt {α : Type} {l : List α} {p N : Nat} {g : Nat → α} (h : (l.drop p).take N = (List.range N).map g) : ∀ j, j < N → g j ∈ l := fun j hj => List.mem_of_mem_drop (List.mem_of_mem_take (h ▸ List.mem_map.mpr ⟨j, List.mem_range.mpr hj, rfl⟩))
theorem mkI {args : Array Value} {s : State} {C n d : String} {N : Nat} {g : Nat → Int32} (hN : N < 2 ^ 31) (hl : (Cond.laysStatic C n d).before args s = true) (hini : (Cond.initialized C).before args s = true) (harr : (Cond.arrayOf (.static C n d) .int).before args s = true) (hlen : (Cond.eq (.length (.static C n d)) (.int (Int32.ofNat N))).before args s = true) (hel : ∀ j, j < N → (Cond.eq (.elem (.static C n d) (.int (Int32.ofNat j))) (.int (g j))).before args s = true) : ∃ t, Fr (sArr C n d .int t N (fun j => .int (g j))) ∧ sArr C n d .int t N (fun j => .int (g j)) (fun q : Nat => s.heap.size ≤ q) s := by
  have hA : ∀ a : Nat, a < s.heap.size → ¬ (fun q : Nat => s.heap.size ≤ q) a := fun a h => Nat.not_le.mpr h
  obtain ⟨t, h1, h2⟩ := va_Tof (A := fun q : Nat => s.heap.size ≤ q) (f := fun j => .int (g j)) hN harr (va_eqt hlen) (fun j hj => va_eqt (hel j hj)) hA
  exact ⟨t, sArr_fr C n d .int t N _, va_Zref hl hini h1 hA, h2⟩
theorem mkJ {args : Array Value} {s : State} {C n d : String} {N : Nat} {g : Nat → Int64} (hN : N < 2 ^ 31) (hl : (Cond.laysStatic C n d).before args s = true) (hini : (Cond.initialized C).before args s = true) (harr : (Cond.arrayOf (.static C n d) .long).before args s = true) (hlen : (Cond.eq (.length (.static C n d)) (.int (Int32.ofNat N))).before args s = true) (hel : ∀ j, j < N → (Cond.eq (.elem (.static C n d) (.int (Int32.ofNat j))) (.long (g j))).before args s = true) : ∃ t, Fr (sArr C n d .long t N (fun j => .long (g j))) ∧ sArr C n d .long t N (fun j => .long (g j)) (fun q : Nat => s.heap.size ≤ q) s := by
  have hA : ∀ a : Nat, a < s.heap.size → ¬ (fun q : Nat => s.heap.size ≤ q) a := fun a h => Nat.not_le.mpr h
  obtain ⟨t, h1, h2⟩ := va_Tof (A := fun q : Nat => s.heap.size ≤ q) (f := fun j => .long (g j)) hN harr (va_eqt hlen) (fun j hj => va_eqtl (hel j hj)) hA
  exact ⟨t, sArr_fr C n d .long t N _, va_Zref hl hini h1 hA, h2⟩
theorem mkY {args : Array Value} {s : State} (hB : (Cond.arrayClass .byte).before args s = true) (hI : (Cond.arrayClass .int).before args s = true) (hJ : (Cond.arrayClass .long).before args s = true) (hO : (Cond.arrayOver (.object "StreamRemuxer$Level")).before args s = true) : ∃ Y : Y4, ∀ (k : Nat) (q : ClassId × FieldType), (TY Y)[k]? = some q → ArrOfT s q.1 q.2 ∧ va_RA s q.1 q.2 := by
  obtain ⟨c1, k1, p1, a1, b1, d1⟩ := Cond.arrayClass_spec hB
  obtain ⟨c2, k2, p2, a2, b2, d2⟩ := Cond.arrayClass_spec hI
  obtain ⟨c3, k3, p3, a3, b3, d3⟩ := Cond.arrayClass_spec hJ
  obtain ⟨p4, c4, k4, e4, _, b4, d4, a4⟩ := Cond.arrayOver_spec hO
  refine ⟨(c1, c2, c3, c4), fun k q h => ?_⟩
  match k, h with
  | 0, h => cases h; exact ⟨fun N z => ⟨(fun k h => by cases h), k1, b1, p1, d1⟩, a1⟩
  | 1, h => cases h; exact ⟨fun N z => ⟨(fun k h => by cases h), k2, b2, p2, d2⟩, a2⟩
  | 2, h => cases h; exact ⟨fun N z => ⟨(fun k h => by cases h), k3, b3, p3, d3⟩, a3⟩
  | 3, h => cases h; exact ⟨fun N z => ⟨(fun k h => by cases h), k4, b4, p4, d4⟩, k4, p4, b4, d4, e4, a4⟩
  | k + 4, h => simp at h
theorem law_ix {L j : Nat} (hL : L ≤ 3072) (hj : j ≤ 3078) (h : ¬ Int32.ofNat L - 6 < nI j) : j + 6 ≤ L := by
  have h1 : (Int32.ofNat L - 6).toInt = (L : Int) - 6 := pk_sub_toInt (a := L) (b := 6) (by omega) (by omega)
  rw [Int32.lt_iff_toInt_lt, h1, nI_toInt (by omega)] at h
  omega
theorem law_in {L j : Nat} (k : Nat) (hL : L ≤ 3072) (h : j + k < L) : vp_in (nI j + nI k) L := by
  rw [nI_add]; exact vp_in_nI h (by omega)
theorem lt16 {t : Nat} (h : t < 16) : t = 0 ∨ t = 1 ∨ t = 2 ∨ t = 3 ∨ t = 4 ∨ t = 5 ∨ t = 6 ∨ t = 7 ∨ t = 8 ∨ t = 9 ∨ t = 10 ∨ t = 11 ∨ t = 12 ∨ t = 13 ∨ t = 14 ∨ t = 15 := by omega
def lv5 (q0 q1 q2 q3 q4 : Nat) : Nat → Nat := fun i => if i = 0 then q0 else if i = 1 then q1 else if i = 2 then q2 else if i = 3 then q3 else q4
theorem lvc_eq (q0 q1 q2 q3 q4 : Nat) : (va_up (va_up (va_up (va_up (va_up (fun _ => none) 0 (some q0)) 1 (some q1)) 2 (some q2)) 3 (some q3)) 4 (some q4)) = lvc (lv5 q0 q1 q2 q3 q4) := by
  funext i
  unfold lvc lv5 va_up
  by_cases h4 : i = 4
  · subst h4; rfl
  · rw [if_neg h4]
    by_cases h3 : i = 3
    · subst h3; rfl
    · rw [if_neg h3]
      by_cases h2 : i = 2
      · subst h2; rfl
      · rw [if_neg h2]
        by_cases h1 : i = 1
        · subst h1; rfl
        · rw [if_neg h1]
          by_cases h0 : i = 0
          · subst h0; rfl
          · rw [if_neg h0, if_neg (by omega)]
set_option maxHeartbeats 4000000 in
set_option maxRecDepth 100000 in
theorem law_stats {p : Program} {s : State} {m : MethodId} {meth : Method} {c : Code} {b L : Nat} {xs : Nat → Int32} (C0 : lw_At p s m meth c b L xs) : ∃ (a_sB : Nat) (a_sF : Nat) (a_sH : Nat) (a_sI : Nat) (a_sL : Nat) (a_sS : Nat × Nat) (a_sT : Nat), ST [e_sB a_sB, e_sF a_sF, e_sH a_sH, e_sI a_sI, e_sL a_sL, e_sS a_sS, e_sT a_sT] (fun q : Nat => s.heap.size ≤ q) s := by
  obtain ⟨hx, hb, hr, hml, hown, hts0, hX0, hbl, hlocks, hgv⟩ := C0
  have hs := flat_of_before _ hgv
  have hA : ∀ a : Nat, a < s.heap.size → ¬ (fun q : Nat => s.heap.size ≤ q) a := fun a h => Nat.not_le.mpr h
  have hm_sB : ∀ j, j < 8 → Cond.eq (.elem (.static "StreamRemuxer$ElementWriter" "TRACKS_BYTES_BEHIND" "[I") (.int (Int32.ofNat j))) (.int (kBeh j)) ∈ flatC (Jvm.Cond.and given_1 narrow_1) := mem_dt (p := 114) (by decide +kernel)
  obtain ⟨a_sB, f_sB, h_sB⟩ := mkI (C := "StreamRemuxer$ElementWriter") (n := "TRACKS_BYTES_BEHIND") (d := "[I") (N := 8) (g := kBeh) (by decide) (hts0 _ (by decide +kernel)) (hts0 _ (by decide +kernel)) (hs _ (by decide +kernel)) (hs _ (by decide +kernel)) (fun j hj => hs _ (hm_sB j hj))
  have hm_sF : ∀ j, j < 16 → Cond.eq (.elem (.static "StreamRemuxer$PageForm" "FOUR_SHIFTS" "[I") (.int (Int32.ofNat j))) (.int (kFour j)) ∈ flatC (Jvm.Cond.and given_1 narrow_1) := mem_dt (p := 7) (by decide +kernel)
  obtain ⟨a_sF, f_sF, h_sF⟩ := mkI (C := "StreamRemuxer$PageForm") (n := "FOUR_SHIFTS") (d := "[I") (N := 16) (g := kFour) (by decide) (hts0 _ (by decide +kernel)) (hts0 _ (by decide +kernel)) (hs _ (by decide +kernel)) (hs _ (by decide +kernel)) (fun j hj => hs _ (hm_sF j hj))
  have hm_sH : ∀ j, j < 40 → Cond.eq (.elem (.static "StreamRemuxer$ElementWriter" "HEAD_BYTES" "[I") (.int (Int32.ofNat j))) (.int (kHead j)) ∈ flatC (Jvm.Cond.and given_1 narrow_1) := mem_dt (p := 26) (by decide +kernel)
  obtain ⟨a_sH, f_sH, h_sH⟩ := mkI (C := "StreamRemuxer$ElementWriter") (n := "HEAD_BYTES") (d := "[I") (N := 40) (g := kHead) (by decide) (hts0 _ (by decide +kernel)) (hts0 _ (by decide +kernel)) (hs _ (by decide +kernel)) (hs _ (by decide +kernel)) (fun j hj => hs _ (hm_sH j hj))
  have hm_sI : ∀ j, j < 20 → Cond.eq (.elem (.static "StreamRemuxer$ElementWriter" "INFO_BYTES" "[I") (.int (Int32.ofNat j))) (.int (kInfo j)) ∈ flatC (Jvm.Cond.and given_1 narrow_1) := mem_dt (p := 69) (by decide +kernel)
  obtain ⟨a_sI, f_sI, h_sI⟩ := mkI (C := "StreamRemuxer$ElementWriter") (n := "INFO_BYTES") (d := "[I") (N := 20) (g := kInfo) (by decide) (hts0 _ (by decide +kernel)) (hts0 _ (by decide +kernel)) (hs _ (by decide +kernel)) (hs _ (by decide +kernel)) (fun j hj => hs _ (hm_sI j hj))
  have hm_sL : ∀ j, j < 19 → Cond.eq (.elem (.static "StreamRemuxer$ElementWriter" "TRACKS_BYTES_TO_LACING" "[I") (.int (Int32.ofNat j))) (.int (kTrk j)) ∈ flatC (Jvm.Cond.and given_1 narrow_1) := mem_dt (p := 92) (by decide +kernel)
  obtain ⟨a_sL, f_sL, h_sL⟩ := mkI (C := "StreamRemuxer$ElementWriter") (n := "TRACKS_BYTES_TO_LACING") (d := "[I") (N := 19) (g := kTrk) (by decide) (hts0 _ (by decide +kernel)) (hts0 _ (by decide +kernel)) (hs _ (by decide +kernel)) (hs _ (by decide +kernel)) (fun j hj => hs _ (hm_sL j hj))
  have hm_sT : ∀ j, j < 162 → Cond.eq (.elem (.static "StreamRemuxer$ElementReader" "TOLD" "[J") (.int (Int32.ofNat j))) (.long (kTold j)) ∈ flatC (Jvm.Cond.and given_1 narrow_1) := mem_dt (p := 125) (by decide +kernel)
  obtain ⟨a_sT, f_sT, h_sT⟩ := mkJ (C := "StreamRemuxer$ElementReader") (n := "TOLD") (d := "[J") (N := 162) (g := kTold) (by decide) (hts0 _ (by decide +kernel)) (hts0 _ (by decide +kernel)) (hs _ (by decide +kernel)) (hs _ (by decide +kernel)) (fun j hj => hs _ (hm_sT j hj))
  have hm_sS : ∀ j, j < 8 → Cond.eq (.elem (.field (.string "StreamRemuxer$ElementReader" 162) "java/lang/String" "value" "[B") (.int (Int32.ofNat j))) (.int (kMatL.getD j 0)) ∈ flatC (Jvm.Cond.and given_1 narrow_1) := mem_dt (p := 296) (by decide +kernel)
  obtain ⟨adK, adV, hV, hE⟩ := vk_Sof (args := #[Value.ref b]) (s := s) (N := 1) (tm := fun _ => .string "StreamRemuxer$ElementReader" 162) (len := [8]) (byt := [kMatL]) (A := fun q : Nat => s.heap.size ≤ q) (fun i hi => by rcases (show i = 0 by omega) with rfl; decide) (fun i hi => hs _ (by decide +kernel)) (fun i hi => hs _ (by decide +kernel)) (fun i hi => hs _ (by decide +kernel)) (fun i hi => by rcases (show i = 0 by omega) with rfl; exact hs _ (by decide +kernel)) (fun i hi j hj => by rcases (show i = 0 by omega) with rfl; exact hs _ (hm_sS j hj)) (fun i j hi hj hne => absurd (show i = j by omega) hne) hA
  have hV1 : vk_S 1 [8] [kMatL] (fun _ => adK 0) (fun _ => adV 0) (fun q : Nat => s.heap.size ≤ q) s s.heap := ⟨fun i hi => by rcases (show i = 0 by omega) with rfl; exact hV.1 0 (by decide), fun i j hi hj _ => by omega⟩
  have hZc : va_Z "java/lang/String" "COMPACT_STRINGS" "Z" (.int 1) (fun q : Nat => s.heap.size ≤ q) s s.heap := va_Zof (hts0 _ (by decide +kernel)) (hts0 _ (by decide +kernel)) (va_eqi (hs _ (by decide +kernel))) hA
  have hQ := va_Zqof (A := fun q : Nat => s.heap.size ≤ q) (hts0 (.laysStatic "jdk/internal/util/Preconditions" "SIOOBE_FORMATTER" "Ljava/util/function/BiFunction;") (by decide +kernel)) (hts0 _ (by decide +kernel)) (hs _ (by decide +kernel)) hA
  refine ⟨a_sB, a_sF, a_sH, a_sI, a_sL, (adK 0, adV 0), a_sT, fun X hX => ?_⟩
  simp only [List.mem_cons, List.not_mem_nil, or_false] at hX
  rcases hX with rfl | rfl | rfl | rfl | rfl | rfl | rfl
  · exact ⟨f_sB, h_sB⟩
  · exact ⟨f_sF, h_sF⟩
  · exact ⟨f_sH, h_sH⟩
  · exact ⟨f_sI, h_sI⟩
  · exact ⟨f_sL, h_sL⟩
  · exact ⟨e_sS_fr _, vk_R.of (hts0 _ (by decide +kernel)) (hE 0 (by decide)), hV1, hZc, hQ⟩
  · exact ⟨f_sT, h_sT⟩
