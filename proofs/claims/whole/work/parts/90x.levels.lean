-- levels of elements: which rows may stand in which, what was seen, what lacks
def idr (r : Nat) : Int32 := (kTold (r * 6)).toInt32
def idl (i : Nat) : Int32 := if i = 0 then 0 else if i = 1 then 440786851 else if i = 2 then 408125543 else if i = 3 then 357149030 else if i = 4 then 374648427 else if i = 5 then 174 else if i = 6 then 524531317 else 160
def par (r : Nat) : Nat := if r = 0 then 8 else if r = 1 then 0 else if r ≤ 8 then 1 else if r = 9 then 0 else if r = 10 then 2 else if r ≤ 13 then 3 else if r = 14 then 2 else if r = 15 then 4 else if r ≤ 20 then 5 else if r = 21 then 2 else if r ≤ 24 then 6 else 7
def bx (r : Nat) : Nat := if r = 1 then 0 else if r ≤ 8 then r - 2 else if r = 9 then 1 else if r = 10 then 0 else if r ≤ 13 then r - 11 else if r = 14 then 1 else if r = 15 then 0 else if r ≤ 20 then r - 16 else if r = 21 then 2 else if r = 22 then 0 else r - 25
def trk (r : Nat) : Bool := !(decide (r = 0) || decide (r = 23) || decide (r = 24))
def LV (i : Nat) (seen met : Int32) : Prop := ∀ r, r < 27 → par r = i → trk r = true → bt seen r = bt met (bx r)
theorem b_1 : ∀ i, i < 32 → bt 1 i = decide (i = 0) := by decide +kernel
theorem sb (x : Int32) {r : Nat} (hr : r < 32) : ((x >>> (nI r &&& 31)) &&& 1) = 0 ↔ bt x r = false := by
  constructor
  · intro h
    have h2 : bt ((x >>> (nI r &&& 31)) &&& 1) 0 = bt 0 0 := by rw [h]
    rw [b_and, b_sshr r hr x (by omega), if_pos (by omega), b_0, Nat.add_zero, b_1 0 (by omega), decide_eq_true rfl, Bool.and_true] at h2
    exact h2
  · intro h
    refine b_ext (fun j hj => ?_)
    rw [b_and, b_sshr r hr x hj, b_1 j hj, b_0]
    by_cases c : j = 0
    · subst c
      rw [if_pos (by omega), Nat.add_zero, h, Bool.false_and]
    · rw [decide_eq_false c, Bool.and_false]
theorem sset (x : Int32) {r j : Nat} (hr : r < 32) (hj : j < 32) : bt (x ||| ((1 : Int32) <<< (nI r &&& 31))) j = (bt x j || decide (j = r)) := by
  rw [b_or, b_shl r hr 1 hj, b_1 (j - r) (by omega)]
  by_cases c : j = r
  · subst c
    rw [decide_eq_true (Nat.le_refl _), decide_eq_true (Nat.sub_self _), decide_eq_true rfl, Bool.and_true]
  · rw [decide_eq_false c]
    by_cases d : r ≤ j
    · rw [decide_eq_false (show ¬ j - r = 0 by omega), Bool.and_false]
    · rw [decide_eq_false d, Bool.false_and]
theorem b_p : ∀ b, b < 8 → ∀ j, j < 32 → bt (nI (2 ^ b)) j = decide (j = b) := by decide +kernel
theorem mb (x : Int32) {b : Nat} (hb : b < 8) : (x &&& nI (2 ^ b)) = 0 ↔ bt x b = false := by
  constructor
  · intro h
    have h2 : bt (x &&& nI (2 ^ b)) b = bt 0 b := by rw [h]
    rw [b_and, b_p b hb b (by omega), b_0, decide_eq_true rfl, Bool.and_true] at h2
    exact h2
  · intro h
    refine b_ext (fun j hj => ?_)
    rw [b_and, b_p b hb j hj, b_0]
    by_cases c : j = b
    · rw [c, h, Bool.false_and]
    · rw [decide_eq_false c, Bool.and_false]
theorem mset (x : Int32) {b j : Nat} (hb : b < 8) (hj : j < 32) : bt (x ||| nI (2 ^ b)) j = (bt x j || decide (j = b)) := by
  rw [b_or, b_p b hb j hj]
def mk3 (a b c : Bool) : Int32 := nI ((if a = true then 1 else 0) + (if b = true then 2 else 0) + (if c = true then 4 else 0))
theorem mk3_b : ∀ a b c : Bool, ∀ j, j < 32 → bt (mk3 a b c) j = if j = 0 then a else if j = 1 then b else if j = 2 then c else false := by decide +kernel
theorem b_7 : ∀ j, j < 32 → bt 7 j = decide (j < 3) := by decide +kernel
theorem and7 (x : Int32) : x &&& 7 = mk3 (bt x 0) (bt x 1) (bt x 2) := by
  refine b_ext (fun j hj => ?_)
  rw [b_and, b_7 j hj, mk3_b _ _ _ j hj]
  by_cases c0 : j = 0
  · subst c0; rw [if_pos rfl, decide_eq_true (by omega), Bool.and_true]
  · rw [if_neg c0]
    by_cases c1 : j = 1
    · subst c1; rw [if_pos rfl, decide_eq_true (by omega), Bool.and_true]
    · rw [if_neg c1]
      by_cases c2 : j = 2
      · subst c2; rw [if_pos rfl, decide_eq_true (by omega), Bool.and_true]
      · rw [if_neg c2, decide_eq_false (by omega), Bool.and_false]
theorem and7m (x m : Int32) (h : 7 &&& m = m) : (x &&& 7) &&& m = x &&& m := by
  refine b_ext (fun j hj => ?_)
  rw [b_and, b_and, b_and, Bool.and_assoc, ← b_and, h]
theorem ms7 (id i met : Int32) : fX10_mayStand Fu id i met = fX10_mayStand Fu id i (met &&& 7) := by
  unfold fX10_mayStand fX10_mayStand_b144
  rw [and7m met 1 (by decide), and7m met 2 (by decide), and7m met 4 (by decide)]
def stR (r : Nat) (a b c : Bool) : Bool := if r = 10 ∨ r = 14 then !c else if r = 9 then (!b && a) else if r = 1 then !b else if r = 21 then b else true
theorem msT : ∀ i, i < 8 → ∀ r, r < 27 → ∀ a b c : Bool, fX10_mayStand Fu (idr r) (nI i) (mk3 a b c) = some (if (r = 0 ∨ par r = i) ∧ stR r a b c = true then 1 else 0) := by decide +kernel
theorem ms_r {i r : Nat} (hi : i < 8) (hr : r < 27) (met : Int32) : fX10_mayStand Fu (idr r) (nI i) met = some (if (r = 0 ∨ par r = i) ∧ stR r (bt met 0) (bt met 1) (bt met 2) = true then 1 else 0) := by
  rw [ms7, and7, msT i hi r hr]
theorem idrs : idr 0 = 236 ∧ idr 1 = 440786851 ∧ idr 2 = 17030 ∧ idr 3 = 17143 ∧ idr 4 = 17138 ∧ idr 5 = 17139 ∧ idr 6 = 17026 ∧ idr 7 = 17031 ∧ idr 8 = 17029 ∧ idr 9 = 408125543 ∧ idr 10 = 357149030 ∧ idr 11 = 2807729 ∧ idr 12 = 19840 ∧ idr 13 = 22337 ∧ idr 14 = 374648427 ∧ idr 15 = 174 ∧ idr 16 = 215 ∧ idr 17 = 131 ∧ idr 18 = 134 ∧ idr 19 = 29637 ∧ idr 20 = 156 ∧ idr 21 = 524531317 ∧ idr 22 = 231 ∧ idr 23 = 163 ∧ idr 24 = 160 ∧ idr 25 = 161 ∧ idr 26 = 155 := by decide +kernel
theorem idne {id : Int32} (h : ∀ r, r < 27 → ¬ id = idr r) : ¬ id = 236 ∧ ¬ id = 440786851 ∧ ¬ id = 17030 ∧ ¬ id = 17143 ∧ ¬ id = 17138 ∧ ¬ id = 17139 ∧ ¬ id = 17026 ∧ ¬ id = 17031 ∧ ¬ id = 17029 ∧ ¬ id = 408125543 ∧ ¬ id = 357149030 ∧ ¬ id = 2807729 ∧ ¬ id = 19840 ∧ ¬ id = 22337 ∧ ¬ id = 374648427 ∧ ¬ id = 174 ∧ ¬ id = 215 ∧ ¬ id = 131 ∧ ¬ id = 134 ∧ ¬ id = 29637 ∧ ¬ id = 156 ∧ ¬ id = 524531317 ∧ ¬ id = 231 ∧ ¬ id = 163 ∧ ¬ id = 160 ∧ ¬ id = 161 ∧ ¬ id = 155 := by
  obtain ⟨e0, e1, e2, e3, e4, e5, e6, e7, e8, e9, e10, e11, e12, e13, e14, e15, e16, e17, e18, e19, e20, e21, e22, e23, e24, e25, e26⟩ := idrs
  exact ⟨fun q => h 0 (by omega) (q.trans e0.symm), fun q => h 1 (by omega) (q.trans e1.symm), fun q => h 2 (by omega) (q.trans e2.symm), fun q => h 3 (by omega) (q.trans e3.symm), fun q => h 4 (by omega) (q.trans e4.symm), fun q => h 5 (by omega) (q.trans e5.symm), fun q => h 6 (by omega) (q.trans e6.symm), fun q => h 7 (by omega) (q.trans e7.symm), fun q => h 8 (by omega) (q.trans e8.symm), fun q => h 9 (by omega) (q.trans e9.symm), fun q => h 10 (by omega) (q.trans e10.symm), fun q => h 11 (by omega) (q.trans e11.symm), fun q => h 12 (by omega) (q.trans e12.symm), fun q => h 13 (by omega) (q.trans e13.symm), fun q => h 14 (by omega) (q.trans e14.symm), fun q => h 15 (by omega) (q.trans e15.symm), fun q => h 16 (by omega) (q.trans e16.symm), fun q => h 17 (by omega) (q.trans e17.symm), fun q => h 18 (by omega) (q.trans e18.symm), fun q => h 19 (by omega) (q.trans e19.symm), fun q => h 20 (by omega) (q.trans e20.symm), fun q => h 21 (by omega) (q.trans e21.symm), fun q => h 22 (by omega) (q.trans e22.symm), fun q => h 23 (by omega) (q.trans e23.symm), fun q => h 24 (by omega) (q.trans e24.symm), fun q => h 25 (by omega) (q.trans e25.symm), fun q => h 26 (by omega) (q.trans e26.symm)⟩
theorem ms_no {id : Int32} (h : ∀ r, r < 27 → ¬ id = idr r) (i met : Int32) : fX10_mayStand Fu id i met = some 0 := by
  have ⟨n0, n1, n2, n3, n4, n5, n6, n7, n8, n9, n10, n11, n12, n13, n14, n15, n16, n17, n18, n19, n20, n21, n22, n23, n24, n25, n26⟩ := idne h
  unfold fX10_mayStand fX10_bitOfHead fX10_bitOfHead_b103 fX10_mayStand_b144 fX10_mayStand_b86 fX10_mayStand_b91 fX10_mayStand_b104 fX10_mayStand_b125 fX10_mayStand_b155 fX10_mayStand_b185 fX10_mayStand_b190 fX10_mayStand_b206 fX10_mayStand_b257 fX10_mayStand_b262 fX10_mayStand_b293 fX10_mayStand_b298 fX10_mayStand_b319 fX10_mayStand_b324
  simp only [n0, n1, n2, n3, n4, n5, n6, n7, n8, n9, n10, n11, n12, n13, n14, n15, n16, n17, n18, n19, n20, n21, n22, n23, n24, n25, n26, if_false, isb0, if_true, Option.bind_some, ite_self]
theorem i32_64 (x : Int32) : x.toInt64.toInt32 = x := b_ext (fun j hj => by rw [bt_i64 _ hj, bl_i32 _ (by omega), if_pos hj])
theorem rowT : ∀ i, i < 8 → ∀ r, r < 27 → fX1_rowOf Fu (idr r) (idl i) = some (if r = 0 ∨ par r = i then nI r else -1) := by decide +kernel
theorem row_loop {id : Int32} (h : ∀ r, r < 27 → ¬ id = idr r) (p : Int32) : ∀ (m n j : Nat), j + m = 27 → m < n → fX1_rowOf_b2 Fu id p n (nI j) = some (-1) := by
  intro m
  induction m with
  | zero =>
    intro n j h1 h2
    obtain ⟨n', rfl⟩ : ∃ n', n = n' + 1 := ⟨n - 1, by omega⟩
    rw [fX1_rowOf_b2, i27, if_pos (nI_le (by omega) (by omega))]
  | succ m ih =>
    intro n j h1 h2
    obtain ⟨n', rfl⟩ : ∃ n', n = n' + 1 := ⟨n - 1, by omega⟩
    have c0 : fX1_column Fu (nI j) 0 = some (kTold (j * 6)) := col Fu (by omega) (c := 0) (by omega)
    have hne : ¬ kTold (j * 6) = id.toInt64 := fun q => h j (by omega) (by
      have q2 : (kTold (j * 6)).toInt32 = id.toInt64.toInt32 := by rw [q]
      rw [i32_64] at q2
      exact q2.symm)
    rw [fX1_rowOf_b2, i27, if_neg (nI_ge (by omega) (by omega)), c0, Option.bind_some, if_neg hne, nm_eq, nI_1]
    exact ih n' (j + 1) (by omega) (by omega)
theorem row_no {id : Int32} (h : ∀ r, r < 27 → ¬ id = idr r) (p : Int32) : fX1_rowOf Fu id p = some (-1) := row_loop h p 27 Fu 0 (by omega) (by unfold Fu; omega)
theorem seenT {id p : Int32} {r : Nat} (h : fX1_rowOf Fu id p = some (nI r)) (hr : r < 27) (seen : Int32) : fX1_isSeen Fu id p seen = some (if bt seen r = true then 1 else 0) := by
  unfold fX1_isSeen fX1_isSeen_b24
  rw [h, Option.bind_some, if_neg (m1_eq (by omega))]
  cases c : bt seen r with
  | true => rw [if_pos rfl, if_neg (fun q => by rw [sb seen (by omega), c] at q; cases q), if_pos isb1]
  | false =>
    rw [if_pos ((sb seen (by omega)).mpr c), if_pos isb0]
    rfl
def stC (r : Nat) (seen : Int32) : Bool := if r = 10 ∨ r = 14 then !(bt seen 21) else if r = 9 then (bt seen 1 && !(bt seen 9)) else if r = 1 then !(bt seen 9) else if r = 21 then bt seen 14 else true
theorem id_oth : ∀ r, r < 27 → (idr r = 357149030 → r = 10) ∧ (idr r = 374648427 → r = 14) ∧ (idr r = 408125543 → r = 9) ∧ (idr r = 440786851 → r = 1) ∧ (idr r = 524531317 → r = 21) := by decide +kernel
theorem id10 : idr 10 = 357149030 := by decide +kernel
theorem id14 : idr 14 = 374648427 := by decide +kernel
theorem id9 : idr 9 = 408125543 := by decide +kernel
theorem id1 : idr 1 = 440786851 := by decide +kernel
theorem id21 : idr 21 = 524531317 := by decide +kernel
theorem ms_c {r : Nat} (hr : r < 27) (seen : Int32) : fX1_mayStand Fu (idr r) seen = some (if stC r seen = true then 1 else 0) := by
  have s21 := seenT (show fX1_rowOf Fu 524531317 408125543 = some (nI 21) by decide +kernel) (by omega) seen
  have s14 := seenT (show fX1_rowOf Fu 374648427 408125543 = some (nI 14) by decide +kernel) (by omega) seen
  have s9 := seenT (show fX1_rowOf Fu 408125543 0 = some (nI 9) by decide +kernel) (by omega) seen
  have s1 := seenT (show fX1_rowOf Fu 440786851 0 = some (nI 1) by decide +kernel) (by omega) seen
  unfold fX1_mayStand fX1_mayStand_b110 fX1_mayStand_b93 fX1_mayStand_b67
  rw [s21, s14, s9, s1, Option.bind_some, Option.bind_some, Option.bind_some, Option.bind_some]
  by_cases h10 : r = 10
  · subst h10
    have hst : stC 10 seen = !(bt seen 21) := rfl
    rw [id10, if_pos rfl, hst]
    cases bt seen 21 <;> rfl
  by_cases h14 : r = 14
  · subst h14
    have hst : stC 14 seen = !(bt seen 21) := rfl
    rw [id14, if_neg (by decide), if_pos rfl, hst]
    cases bt seen 21 <;> rfl
  by_cases h9 : r = 9
  · subst h9
    have hst : stC 9 seen = (bt seen 1 && !(bt seen 9)) := rfl
    rw [id9, if_neg (by decide), if_neg (by decide), if_pos rfl, hst]
    cases bt seen 1 <;> cases bt seen 9 <;> rfl
  by_cases h1 : r = 1
  · subst h1
    have hst : stC 1 seen = !(bt seen 9) := rfl
    rw [id1, if_neg (by decide), if_neg (by decide), if_neg (by decide), if_pos rfl, hst]
    cases bt seen 9 <;> rfl
  by_cases h21 : r = 21
  · subst h21
    have hst : stC 21 seen = bt seen 14 := rfl
    rw [id21, if_neg (by decide), if_neg (by decide), if_neg (by decide), if_neg (by decide), if_pos rfl, hst]
    cases bt seen 14 <;> rfl
  obtain ⟨q1, q2, q3, q4, q5⟩ := id_oth r hr
  have hst : stC r seen = true := by
    unfold stC
    rw [if_neg (by omega), if_neg h9, if_neg h1, if_neg h21]
  rw [if_neg (fun h => h10 (q1 h)), if_neg (fun h => h14 (q2 h)), if_neg (fun h => h9 (q3 h)), if_neg (fun h => h1 (q4 h)), if_neg (fun h => h21 (q5 h)), hst]
  rfl
theorem st_eq {i r : Nat} (hr : r < 27) (hp : r = 0 ∨ par r = i) {seen met : Int32} (h : LV i seen met) : stC r seen = stR r (bt met 0) (bt met 1) (bt met 2) := by
  unfold stC stR
  have hpar : r ≠ 0 → par r = i := fun h0 => hp.resolve_left h0
  by_cases h10 : r = 10 ∨ r = 14
  · rw [if_pos h10, if_pos h10]
    have hi : i = 2 := by
      rcases h10 with h10 | h10
      · rw [← hpar (by omega), h10]; rfl
      · rw [← hpar (by omega), h10]; rfl
    rw [show bt seen 21 = bt met 2 from h 21 (by omega) (by rw [hi]; rfl) rfl]
  rw [if_neg h10, if_neg h10]
  by_cases h9 : r = 9
  · have hi : i = 0 := by rw [← hpar (by omega), h9]; rfl
    rw [if_pos h9, if_pos h9, show bt seen 1 = bt met 0 from h 1 (by omega) (by rw [hi]; rfl) rfl, show bt seen 9 = bt met 1 from h 9 (by omega) (by rw [hi]; rfl) rfl, Bool.and_comm]
  rw [if_neg h9, if_neg h9]
  by_cases h1 : r = 1
  · have hi : i = 0 := by rw [← hpar (by omega), h1]; rfl
    rw [if_pos h1, if_pos h1, show bt seen 9 = bt met 1 from h 9 (by omega) (by rw [hi]; rfl) rfl]
  rw [if_neg h1, if_neg h1]
  by_cases h21 : r = 21
  · have hi : i = 2 := by rw [← hpar (by omega), h21]; rfl
    rw [if_pos h21, if_pos h21, show bt seen 14 = bt met 1 from h 14 (by omega) (by rw [hi]; rfl) rfl]
  rw [if_neg h21, if_neg h21]
-- what lacks
def q0r (i : Nat) : Nat := if i = 0 then 1 else if i = 1 then 6 else if i = 2 then 14 else if i = 4 then 15 else if i = 5 then 16 else if i = 6 then 22 else if i = 7 then 25 else 0
def q1r (i : Nat) : Nat := if i = 0 then 9 else if i = 5 then 17 else 0
def q2r (i : Nat) : Nat := if i = 5 then 18 else 0
def cz (i : Nat) (a b c : Bool) : Int32 := (if a = true then nI (2 ^ q0r i) else 0) ||| (if b = true then nI (2 ^ q1r i) else 0) ||| (if c = true then nI (2 ^ q2r i) else 0)
def lkB (i : Nat) (a b c : Bool) : Bool := if i = 0 then !(a && b) else if i = 3 then false else if i = 5 then !(a && b && c) else !a
theorem lkT : ∀ i, i < 8 → ∀ a b c : Bool, fX1_lacksSome Fu (idl i) (cz i a b c) = some (if lkB i a b c = true then 1 else 0) := by decide +kernel
theorem czT : ∀ i, i < 8 → ∀ r, r < 27 → (kTold (r * 6 + 1) = (idl i).toInt64 ∧ kTold (r * 6 + 2) = 2) → (r = q0r i ∨ r = q1r i ∨ r = q2r i) ∧ ∀ a b c : Bool, bt (cz i a b c) r = if r = q0r i then a else if r = q1r i then b else c := by decide +kernel
theorem lk_congr {p0 s s' : Int32} (h : ∀ r, r < 27 → kTold (r * 6 + 1) = p0.toInt64 → kTold (r * 6 + 2) = 2 → bt s r = bt s' r) : ∀ (m n j : Nat), j + m = 27 → m < n → fX1_lacksSome_b2 Fu p0 s n (nI j) = fX1_lacksSome_b2 Fu p0 s' n (nI j) := by
  intro m
  induction m with
  | zero =>
    intro n j h1 h2
    obtain ⟨n', rfl⟩ : ∃ n', n = n' + 1 := ⟨n - 1, by omega⟩
    rw [fX1_lacksSome_b2, fX1_lacksSome_b2, i27, if_pos (nI_le (by omega) (by omega)), if_pos (nI_le (by omega) (by omega))]
  | succ m ih =>
    intro n j h1 h2
    obtain ⟨n', rfl⟩ : ∃ n', n = n' + 1 := ⟨n - 1, by omega⟩
    have c1 : fX1_column Fu (nI j) 1 = some (kTold (j * 6 + 1)) := col Fu (by omega) (c := 1) (by omega)
    have c2 : fX1_column Fu (nI j) 2 = some (kTold (j * 6 + 2)) := col Fu (by omega) (c := 2) (by omega)
    have hi := ih n' (j + 1) (by omega) (by omega)
    rw [fX1_lacksSome_b2, fX1_lacksSome_b2, i27, if_neg (nI_ge (by omega) (by omega)), if_neg (nI_ge (by omega) (by omega)), c1, c2, Option.bind_some, Option.bind_some, Option.bind_some, Option.bind_some]
    unfold fX1_lacksSome_b35 fX1_lacksSome_b36 fX1_lacksSome_b51
    simp only [nm_eq, nI_1, hi]
    by_cases e1 : kTold (j * 6 + 1) = p0.toInt64
    · rw [if_pos e1, if_pos e1]
      by_cases e2 : kTold (j * 6 + 2) = 2
      · rw [if_pos e2, if_pos e2, if_neg (show ¬ (1 : Int32) = 0 by decide), if_neg (show ¬ (1 : Int32) = 0 by decide)]
        have hb := h j (by omega) e1 e2
        cases c : bt s j with
        | true =>
          rw [c] at hb
          rw [if_neg (fun q => by rw [sb s (by omega), c] at q; cases q), if_neg (fun q => by rw [sb s' (by omega), ← hb] at q; cases q)]
        | false =>
          rw [c] at hb
          rw [if_pos ((sb s (by omega)).mpr c), if_pos ((sb s' (by omega)).mpr hb.symm)]
      · rw [if_neg e2, if_neg e2, if_pos trivial, if_pos trivial]
    · rw [if_neg e1, if_neg e1, if_pos trivial, if_pos trivial]
theorem lk_c {i : Nat} (hi : i < 8) (s : Int32) : fX1_lacksSome Fu (idl i) s = some (if lkB i (bt s (q0r i)) (bt s (q1r i)) (bt s (q2r i)) = true then 1 else 0) := by
  rw [← lkT i hi]
  refine lk_congr (fun r hr e1 e2 => ?_) 27 Fu 0 (by omega) (by unfold Fu; omega)
  obtain ⟨h1, h2⟩ := czT i hi r hr ⟨e1, e2⟩
  rw [h2]
  by_cases c0 : r = q0r i
  · rw [if_pos c0, c0]
  · rw [if_neg c0]
    by_cases c1 : r = q1r i
    · rw [if_pos c1, c1]
    · rw [if_neg c1, (h1.resolve_left c0).resolve_left c1]
def lkR (i : Nat) (has met : Int32) : Bool := if i = 0 then !(bt met 0 && bt met 1) else if i = 1 then !(bt met 4) else if i = 2 then !(bt met 1) else if i = 3 then false else if i = 4 then !(bt met 0) else if i = 5 then !(bt met 0 && bt met 1 && bt met 2) else if i = 6 then decide (has = 0) else !(bt met 0)
theorem b_3 : ∀ j, j < 32 → bt 3 j = decide (j < 2) := by decide +kernel
theorem and3 (x : Int32) : (x &&& 3) = 3 ↔ (bt x 0 && bt x 1) = true := by
  constructor
  · intro h
    have h0 : bt (x &&& 3) 0 = bt 3 0 := by rw [h]
    have h1 : bt (x &&& 3) 1 = bt 3 1 := by rw [h]
    rw [b_and, b_3 0 (by omega), decide_eq_true (by omega), Bool.and_true] at h0
    rw [b_and, b_3 1 (by omega), decide_eq_true (by omega), Bool.and_true] at h1
    rw [h0, h1]; rfl
  · intro h
    rw [Bool.and_eq_true] at h
    refine b_ext (fun j hj => ?_)
    rw [b_and, b_3 j hj]
    by_cases c : j < 2
    · rw [decide_eq_true c, Bool.and_true]
      rcases (show j = 0 ∨ j = 1 by omega) with q | q
      · rw [q]; exact h.1
      · rw [q]; exact h.2
    · rw [decide_eq_false c, Bool.and_false]
theorem and77 (x : Int32) : (x &&& 7) = 7 ↔ (bt x 0 && bt x 1 && bt x 2) = true := by
  rw [and7]
  have h : ∀ a b c : Bool, mk3 a b c = 7 ↔ (a && b && c) = true := by decide +kernel
  exact h _ _ _
theorem has145 (hf hfa place v : Int32) (hv : v = 0 ∨ v = 1) : fX10_has_b145 Fu hf hfa place v = if v = 0 then some (0, 7, place) else some (1, hf, hfa) := by
  unfold fX10_has_b145 fX10_has_b160 fX10_has_b165 fX10_fails
  rw [Option.bind_some]
  dsimp only
  rw [if_pos (rfl : (0 : Int32) = 0), if_pos isb0, if_pos isb1]
theorem has_r {i : Nat} (hi : i < 8) {has : Int32} (hh : i = 6 → (has = 0 ∨ has = 1)) (hf hfa place met : Int32) : fX10_has Fu hf hfa has place (nI i) met = if lkR i has met = true then some (0, 7, place) else some (1, hf, hfa) := by
  have v0 := has145 hf hfa place 0 (Or.inl rfl)
  have v1 := has145 hf hfa place 1 (Or.inr rfl)
  have b1 : (met &&& 1) = 0 ↔ bt met 0 = false := mb met (b := 0) (by omega)
  have b2 : (met &&& 2) = 0 ↔ bt met 1 = false := mb met (b := 1) (by omega)
  have b16 : (met &&& 16) = 0 ↔ bt met 4 = false := mb met (b := 4) (by omega)
  rw [if_pos rfl] at v0
  rw [if_neg (by decide)] at v1
  unfold fX10_has fX10_has_b60 fX10_has_b77 fX10_has_b93 fX10_has_b109 fX10_has_b128
  rw [v0, v1]
  simp only [and3, and77, b1, b2, b16]
  rcases (show i = 0 ∨ i = 1 ∨ i = 2 ∨ i = 3 ∨ i = 4 ∨ i = 5 ∨ i = 6 ∨ i = 7 by omega) with h | h | h | h | h | h | h | h
  · subst h
    have hl : lkR 0 has met = (!(bt met 0 && bt met 1)) := rfl
    rw [hl, if_pos (show nI 0 = 0 from rfl)]
    cases bt met 0 <;> cases bt met 1 <;> rfl
  · subst h
    have hl : lkR 1 has met = (!(bt met 4)) := rfl
    rw [hl, if_neg (show ¬ nI 1 = 0 by decide), if_pos (show nI 1 = 1 from rfl)]
    cases bt met 4 <;> rfl
  · subst h
    have hl : lkR 2 has met = (!(bt met 1)) := rfl
    rw [hl, if_neg (show ¬ nI 2 = 0 by decide), if_neg (show ¬ nI 2 = 1 by decide), if_pos (show nI 2 = 2 from rfl)]
    cases bt met 1 <;> rfl
  · subst h
    have hl : lkR 3 has met = (false) := rfl
    rw [hl, if_neg (show ¬ nI 3 = 0 by decide), if_neg (show ¬ nI 3 = 1 by decide), if_neg (show ¬ nI 3 = 2 by decide), if_pos (show nI 3 = 3 from rfl)]
    rfl
  · subst h
    have hl : lkR 4 has met = (!(bt met 0)) := rfl
    rw [hl, if_neg (show ¬ nI 4 = 0 by decide), if_neg (show ¬ nI 4 = 1 by decide), if_neg (show ¬ nI 4 = 2 by decide), if_neg (show ¬ nI 4 = 3 by decide), if_pos (show nI 4 = 4 from rfl)]
    cases bt met 0 <;> rfl
  · subst h
    have hl : lkR 5 has met = (!(bt met 0 && bt met 1 && bt met 2)) := rfl
    rw [hl, if_neg (show ¬ nI 5 = 0 by decide), if_neg (show ¬ nI 5 = 1 by decide), if_neg (show ¬ nI 5 = 2 by decide), if_neg (show ¬ nI 5 = 3 by decide), if_neg (show ¬ nI 5 = 4 by decide), if_pos (show nI 5 = 5 from rfl)]
    cases bt met 0 <;> cases bt met 1 <;> cases bt met 2 <;> rfl
  · subst h
    have hl : lkR 6 has met = (decide (has = 0)) := rfl
    rw [hl, if_neg (show ¬ nI 6 = 0 by decide), if_neg (show ¬ nI 6 = 1 by decide), if_neg (show ¬ nI 6 = 2 by decide), if_neg (show ¬ nI 6 = 3 by decide), if_neg (show ¬ nI 6 = 4 by decide), if_neg (show ¬ nI 6 = 5 by decide), if_pos (show nI 6 = 6 from rfl)]
    rw [has145 hf hfa place has (hh rfl)]
    rcases hh rfl with h | h
    · rw [h]; rfl
    · rw [h]; rfl
  · subst h
    have hl : lkR 7 has met = (!(bt met 0)) := rfl
    rw [hl, if_neg (show ¬ nI 7 = 0 by decide), if_neg (show ¬ nI 7 = 1 by decide), if_neg (show ¬ nI 7 = 2 by decide), if_neg (show ¬ nI 7 = 3 by decide), if_neg (show ¬ nI 7 = 4 by decide), if_neg (show ¬ nI 7 = 5 by decide), if_neg (show ¬ nI 7 = 6 by decide), if_pos (show nI 7 = 7 from rfl)]
    cases bt met 0 <;> rfl
/-- what holds of TIME in a CLUSTER -/
def HT (i : Nat) (met has : Int32) : Prop := i = 6 → ((has = 0 ∨ has = 1) ∧ (has = 1 ↔ bt met 0 = true))
theorem close_eq {i : Nat} (hi : i < 8) {seen met has : Int32} (h : LV i seen met) (hht : HT i met has) :
    (fX1_lacksSome Fu (idl i) seen = some 1 ∧ ∀ hf hfa place, fX10_has Fu hf hfa has place (nI i) met = some (0, 7, place)) ∨
    (fX1_lacksSome Fu (idl i) seen = some 0 ∧ (i = 5 → bt seen 16 = true) ∧ (i = 4 → bt seen 15 = true) ∧ ∀ hf hfa place, fX10_has Fu hf hfa has place (nI i) met = some (1, hf, hfa)) := by
  have hh : i = 6 → (has = 0 ∨ has = 1) := fun z => (hht z).1
  have he : lkB i (bt seen (q0r i)) (bt seen (q1r i)) (bt seen (q2r i)) = lkR i has met := by
    rcases (show i = 0 ∨ i = 1 ∨ i = 2 ∨ i = 3 ∨ i = 4 ∨ i = 5 ∨ i = 6 ∨ i = 7 by omega) with q | q | q | q | q | q | q | q
    · subst q
      show (!(bt seen 1 && bt seen 9)) = (!(bt met 0 && bt met 1))
      rw [show bt seen 1 = bt met 0 from h 1 (by omega) rfl rfl, show bt seen 9 = bt met 1 from h 9 (by omega) rfl rfl]
    · subst q
      show (!(bt seen 6)) = (!(bt met 4))
      rw [show bt seen 6 = bt met 4 from h 6 (by omega) rfl rfl]
    · subst q
      show (!(bt seen 14)) = (!(bt met 1))
      rw [show bt seen 14 = bt met 1 from h 14 (by omega) rfl rfl]
    · subst q
      rfl
    · subst q
      show (!(bt seen 15)) = (!(bt met 0))
      rw [show bt seen 15 = bt met 0 from h 15 (by omega) rfl rfl]
    · subst q
      show (!(bt seen 16 && bt seen 17 && bt seen 18)) = (!(bt met 0 && bt met 1 && bt met 2))
      rw [show bt seen 16 = bt met 0 from h 16 (by omega) rfl rfl, show bt seen 17 = bt met 1 from h 17 (by omega) rfl rfl, show bt seen 18 = bt met 2 from h 18 (by omega) rfl rfl]
    · subst q
      show (!(bt seen 22)) = decide (has = 0)
      rw [show bt seen 22 = bt met 0 from h 22 (by omega) rfl rfl]
      have h6 := (hht rfl).2
      cases c : bt met 0 with
      | true => rw [h6.mpr c]; rfl
      | false =>
        have : has = 0 := by
          rcases hh rfl with q | q
          · exact q
          · rw [h6.mp q] at c; cases c
        rw [this]; rfl
    · subst q
      show (!(bt seen 25)) = (!(bt met 0))
      rw [show bt seen 25 = bt met 0 from h 25 (by omega) rfl rfl]
  have hc := lk_c hi seen
  cases c : lkR i has met with
  | true =>
    left
    rw [he, c, if_pos rfl] at hc
    exact ⟨hc, fun hf hfa place => by rw [has_r hi hh, c, if_pos rfl]⟩
  | false =>
    right
    rw [he, c, if_neg (by decide)] at hc
    refine ⟨hc, fun h5 => ?_, fun h4 => ?_, fun hf hfa place => by rw [has_r hi hh, c, if_neg (by decide)]⟩
    · subst h5
      rw [c] at he
      have he2 : (!(bt seen 16 && bt seen 17 && bt seen 18)) = false := he
      cases q : bt seen 16 with
      | true => rfl
      | false => rw [q] at he2; cases he2
    · subst h4
      rw [c] at he
      have he2 : (!(bt seen 15)) = false := he
      cases q : bt seen 15 with
      | true => rfl
      | false => rw [q] at he2; cases he2
-- bits of the reference, rows seen twice
def bitv (r : Nat) : Int32 := if r = 0 ∨ r = 21 ∨ r = 23 ∨ r = 24 then 0 else nI (2 ^ bx r)
theorem bitT : ∀ i, i < 8 → ∀ r, r < 27 → (r = 0 ∨ par r = i) → fX10_bit Fu (idr r) (nI i) = some (bitv r) := by decide +kernel
theorem oftT : ∀ r, r < 27 → ((kTold (r * 6 + 2) = 0 ↔ (r = 0 ∨ r = 21 ∨ r = 23 ∨ r = 24)) ∧ bx r < 8) := by decide +kernel
theorem bxT : ∀ r, r < 27 → ∀ s, s < 27 → (par r = par s ∧ trk r = true ∧ trk s = true ∧ bx r = bx s) → r = s := by decide +kernel
theorem bx7T : ∀ r, r < 27 → bx r < 7 := by decide +kernel
/-- what the reference met behind row r -/
def metN (r : Nat) (met : Int32) : Int32 := if r = 21 then (met ||| bitv r) ||| 4 else met ||| bitv r
theorem bit_or0 (x : Int32) {j : Nat} : bt (x ||| 0) j = bt x j := by rw [b_or, b_0, Bool.or_false]
theorem metN_bt {r : Nat} (hr : r < 27) (met : Int32) {j : Nat} (hj : j < 32) : bt (metN r met) j = (bt met j || (trk r && decide (j = bx r))) := by
  unfold metN bitv
  by_cases h21 : r = 21
  · rw [if_pos h21, if_pos (Or.inr (Or.inl h21)), h21]
    have h4 : (4 : Int32) = nI (2 ^ 2) := rfl
    rw [h4, mset _ (by omega) hj, bit_or0]
    rfl
  · rw [if_neg h21]
    by_cases h0 : r = 0 ∨ r = 21 ∨ r = 23 ∨ r = 24
    · rw [if_pos h0, bit_or0]
      have : trk r = false := by
        rcases h0 with h | h | h | h
        · rw [h]; rfl
        · exact absurd h h21
        · rw [h]; rfl
        · rw [h]; rfl
      rw [this, Bool.false_and, Bool.or_false]
    · rw [if_neg h0, mset _ (oftT r hr).2 hj]
      have : trk r = true := by
        unfold trk
        rw [decide_eq_false (fun q => h0 (Or.inl q)), decide_eq_false (fun q => h0 (Or.inr (Or.inr (Or.inl q)))), decide_eq_false (fun q => h0 (Or.inr (Or.inr (Or.inr q))))]
        rfl
      rw [this, Bool.true_and]
theorem LV_step {i r : Nat} (hr : r < 27) (hp : r = 0 ∨ par r = i) {seen met : Int32} (h : LV i seen met) : LV i (seen ||| ((1 : Int32) <<< (nI r &&& 31))) (metN r met) := by
  intro s hs h1 h2
  rw [sset seen (by omega) (by omega), metN_bt hr met (by have := bx7T s hs; omega), h s hs h1 h2]
  by_cases c : s = r
  · subst c
    rw [decide_eq_true rfl, h2, decide_eq_true rfl]
    rfl
  · rw [decide_eq_false c]
    cases ht : trk r with
    | false => rw [Bool.false_and]
    | true =>
      have hpr : par r = i := hp.resolve_left (fun q => by rw [q] at ht; cases ht)
      rw [decide_eq_false (fun q => c (bxT s hs r hr ⟨by rw [h1, hpr], h2, ht, q⟩)), Bool.and_false]
theorem LV_0 (i : Nat) : LV i 0 0 := fun r hr h1 h2 => by rw [b_0, b_0]
