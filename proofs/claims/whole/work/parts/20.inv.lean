-- the two states, seen as one: n elements, s strands, k crossings g, modulus m, the table t, the weights w
def qn_inj (n : Nat) (t : Nat → Nat → Nat) (y : Nat) : Prop := ∀ a b, a < n → b < n → t a y = t b y → a = b
/-- b is the least column that is no bijection, or -4 -/
def qn_IsBad (n : Nat) (t : Nat → Nat → Nat) (b : Int32) : Prop := (b = (-4) ∧ ∀ y, y < n → qn_inj n t y) ∨ ∃ y, y < n ∧ b = nI y ∧ ¬ qn_inj n t y ∧ ∀ z, z < y → qn_inj n t z
/-- a crossing of s strands -/
def qn_cr (s : Nat) (c : Int32) : Prop := ∃ q, 1 ≤ q ∧ q < s ∧ (c = nI q ∨ c = -nI q)
def qn_Good (n s k m : Nat) (t w : Nat → Nat → Nat) (g : Nat → Int32) : Prop :=
  1 ≤ n ∧ n ≤ 6 ∧ 2 ≤ s ∧ s ≤ 4 ∧ k ≤ 12 ∧ 2 ≤ m ∧ m ≤ 12 ∧ (∀ x y, x < n → y < n → t x y < n) ∧ (∀ x y, x < n → y < n → w x y < m) ∧ ∀ j, j < k → qn_cr s (g j)
/-- a table in a row of 36, at a place -/
def qn_tb (n o : Nat) (t : Nat → Nat → Nat) (f : Nat → Int32) : Prop := ∀ x y, x < n → y < n → f (o + (6 * x + y)) = nI (t x y)
/-- the quotients in a row of 36: in each column that is a bijection -/
def qn_qt (n : Nat) (t : Nat → Nat → Nat) (f : Nat → Int32) : Prop := ∀ y, y < n → qn_inj n t y → ∀ x, x < n → f (6 * t x y + y) = nI x
def qn_X (n s k m : Nat) (t w : Nat → Nat → Nat) (g : Nat → Int32) (v : qn_St) : Prop :=
  v.1 = nI n ∧ qn_IsBad n t v.2.1 ∧ qn_tb n 0 t v.2.2.1 ∧ qn_qt n t v.2.2.2.1 ∧ v.2.2.2.2.1 = nI s ∧ v.2.2.2.2.2.1 = nI k ∧ (∀ j, j < k → v.2.2.2.2.2.2.1 j = g j) ∧ v.2.2.2.2.2.2.2.1 = nI m ∧ qn_tb n 0 w v.2.2.2.2.2.2.2.2
def qn_M (n s k m : Nat) (t w : Nat → Nat → Nat) (g : Nat → Int32) (N : Nat → Int32) : Prop :=
  N 84 = nI n ∧ qn_tb n 0 t N ∧ N 85 = nI s ∧ N 86 = nI k ∧ (∀ j, j < k → N (72 + j) = g j) ∧ N 87 = nI m ∧ qn_tb n 36 w N
def qn_R (v : qn_St) (N : Nat → Int32) : Prop := ∃ (n s k m : Nat) (t w : Nat → Nat → Nat) (g : Nat → Int32), qn_Good n s k m t w g ∧ qn_X n s k m t w g v ∧ qn_M n s k m t w g N
/-- the two objects agree: now, and in the edits that can be undone -/
def qn_Inv (v : qn_St) (hc : Int32) (P : Nat → qn_St) (N Hi : Nat → Int32) (ed : Int32) : Prop :=
  ∃ c, c ≤ 5 ∧ hc = nI c ∧ ed = nI c ∧ qn_R v N ∧ ∀ i, i < c → qn_R (P i) (fun k => Hi (88 * i + k))
abbrev qn_S0 : qn_St := (0, (-4), (fun _ => 0), (fun _ => 0), 2, 0, (fun _ => 0), 2, (fun _ => 0))
