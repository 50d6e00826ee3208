/-! the relation between the class's state and the reference's -/
/-- byte k of a row of words -/
def rb (w : Nat → Int32) (k : Nat) : Int32 := ushr32 (w (k / 4)) (8 * nI (k % 4)) &&& 255
def RBy (len : Int32) (w : Nat → Int32) (ml : Int32) (mt : Nat → Int32) : Prop := ∃ T : Nat, T ≤ 6000 ∧ len = nI T ∧ ml = nI T ∧ ∀ k, k < T → rb w k = mt k &&& 255
def psum (sz : Nat → Nat) : Nat → Nat
  | 0 => 0
  | n + 1 => psum sz n + sz n
def RLi (pk bl : Int32) (w e : Nat → Int32) (t : Nat → Int64) (mn tt : Int32) (ms : Nat → Int32) (mt : Nat → Int64) (mb : Nat → Int32) : Prop := ∃ (N T : Nat) (sz : Nat → Nat), N ≤ 64 ∧ T ≤ 2400 ∧ pk = nI N ∧ mn = nI N ∧ bl = nI T ∧ tt = nI T ∧ psum sz N = T ∧ (∀ i, i < N → ms i = nI (sz i) ∧ e i = nI (psum sz (i + 1)) ∧ t i = mt i ∧ -1 ≤ t i ∧ t i ≤ 1099511627775) ∧ ∀ k, k < T → rb w k = mb k &&& 255
def RCo (h i t c : Nat → Int32) : Prop := (∀ j, j < 40 → h j &&& 255 = kHead j) ∧ (∀ j, j < 20 → i j &&& 255 = kInfo j) ∧ (∀ j, j < 19 → t j &&& 255 = kTrk j) ∧ ∀ j, j < 8 → c j &&& 255 = kBeh j
def REL (al : Int32) (aw : Nat → Int32) (ol : Int32) (ow : Nat → Int32) (pk bl : Int32) (lw le : Nat → Int32) (lt : Nat → Int64) (f fp pr cr br : Int32) (mt : Int32) (mta : Nat → Int32) (mo : Int32) (mou : Nat → Int32) (mn tt : Int32) (ms : Nat → Int32) (mti : Nat → Int64) (mb : Nat → Int32) (td ta pc cc bc : Int32) (h i t c : Nat → Int32) : Prop :=
  RBy al aw mt mta ∧ RBy ol ow mo mou ∧ RLi pk bl lw le lt mn tt ms mti mb ∧ (f = td ∧ fp = ta ∧ pr = pc ∧ cr = cc ∧ br = bc) ∧ RCo h i t c
