/-! what a sorted row is, and its searches -/
def NO : Int64 := 4611686018427387904
def Srt (n : Nat) (K : Nat → Int64) : Prop := ∀ i j, i ≤ j → j < n → K i ≤ K j
def BL (n : Nat) (K : Nat → Int64) (key : Int64) (b : Nat) : Prop := b ≤ n ∧ (∀ i, i < b → K i < key) ∧ ∀ i, b ≤ i → i < n → key ≤ K i
def BU (n : Nat) (K : Nat → Int64) (key : Int64) (b : Nat) : Prop := b ≤ n ∧ (∀ i, i < b → K i ≤ key) ∧ ∀ i, b ≤ i → i < n → key < K i
def isIn (n : Nat) (x : Int32) : Prop := 0 ≤ x ∧ x < nI n
def vAt (n : Nat) (f : Nat → Int64) (x : Int32) : Int64 := if ¬ x < 0 ∧ ¬ nI n ≤ x then f x.toNatClampNeg else NO
def inS (f : Nat → Int64) (n b : Nat) (x : Int64) : Nat → Int64 := vp_updL (va_cpy f f b (b + 1) (n - b)) b x
def grp (g : Nat → Int64) : Nat → Nat
  | 0 => 0
  | n + 1 => if n = 0 ∨ g n ≠ g (n - 1) then grp g n + 1 else grp g n
theorem BL.uniq {n : Nat} {K : Nat → Int64} {key : Int64} {a b : Nat} (h1 : BL n K key a) (h2 : BL n K key b) : a = b := by
  rcases Nat.lt_trichotomy a b with h | h | h
  · exact absurd (h2.2.1 a h) (Int64.not_lt.mpr (h1.2.2 a (Nat.le_refl _) (Nat.lt_of_lt_of_le h h2.1)))
  · exact h
  · exact absurd (h1.2.1 b h) (Int64.not_lt.mpr (h2.2.2 b (Nat.le_refl _) (Nat.lt_of_lt_of_le h h1.1)))
theorem ix_of {x : Int32} {n : Nat} (h1 : ¬ x < 0) (h2 : ¬ nI n ≤ x) (hn : n < 2 ^ 31) : ∃ j, j < n ∧ x = nI j := by
  obtain ⟨j, hj, rfl⟩ := nI_of h1
  exact ⟨j, Nat.not_le.mp fun q => h2 (nI_le q hj), rfl⟩
theorem vAt_N {n j : Nat} {f : Nat → Int64} (hn : n < 2 ^ 31) (h : j < n) : vAt n f (nI j) = f j := by
  have hj : j < 2 ^ 31 := Nat.lt_trans h hn
  unfold vAt
  rw [if_pos ⟨nI_pos hj, nI_ge h hn⟩, nI_clamp hj]
theorem vAt_out {n : Nat} {f : Nat → Int64} {x : Int32} (h : ¬ (¬ x < 0 ∧ ¬ nI n ≤ x)) : vAt n f x = NO := by
  unfold vAt
  rw [if_neg h]
theorem lt_max {k : Int64} (h : k ≠ 9223372036854775807) (x : Int64) : x < k + 1 ↔ x ≤ k := by
  have h1 : k.toInt ≠ 9223372036854775807 := fun q => h (Int64.toInt_inj.mp (by rw [q]; rfl))
  have h2 : (k + 1).toInt = k.toInt + 1 := by
    rw [Int64.toInt_add]
    have a := Int64.le_toInt k
    have b := Int64.toInt_lt k
    have e1 : (1 : Int64).toInt = 1 := rfl
    rw [e1, Int.bmod_eq_of_le (by omega) (by omega)]
  rw [Int64.lt_iff_toInt_lt, Int64.le_iff_toInt_le, h2]
  omega
theorem BL.up {n : Nat} {K : Nat → Int64} {k : Int64} {b : Nat} (h : k ≠ 9223372036854775807) (q : BL n K (k + 1) b) : BU n K k b :=
  ⟨q.1, fun i hi => (lt_max h _).mp (q.2.1 i hi), fun i h1 h2 => Int64.not_le.mp fun z => absurd ((lt_max h _).mpr z) (Int64.not_lt.mpr (q.2.2 i h1 h2))⟩
theorem BU.top {n : Nat} {K : Nat → Int64} : BU n K 9223372036854775807 n :=
  ⟨Nat.le_refl _, fun i _ => Int64.le_iff_toInt_le.mpr (by have := Int64.toInt_lt (K i); have e : (9223372036854775807 : Int64).toInt = 9223372036854775807 := rfl; omega), fun i h1 h2 => absurd h2 (Nat.not_lt.mpr h1)⟩
abbrev SS : Type := Nat × (Nat → Int64) × (Nat → Int64)
/-- store: the key is there, and its value another; or it comes at its place -/
def StR (n : Nat) (K V : Nat → Int64) (key v r : Int64) (u : SS) : Prop := (∃ b, BL n K key b ∧ b < n ∧ K b = key ∧ r = V b ∧ u = (n, K, vp_updL V b v)) ∨ (∃ b, BL n K key b ∧ (b < n → K b ≠ key) ∧ r = NO ∧ u = (n + 1, inS K n b key, inS V n b v))
/-- raise -/
def RaR (n : Nat) (K V : Nat → Int64) (key v r : Int64) (u : SS) : Prop := (∃ b, BL n K key b ∧ b < n ∧ K b = key ∧ r = V b + v ∧ u = (n, K, vp_updL V b (V b + v))) ∨ (∃ b, BL n K key b ∧ (b < n → K b ≠ key) ∧ r = v ∧ u = (n + 1, inS K n b key, inS V n b v))
/-- takeAt -/
def TkR (n : Nat) (K V : Nat → Int64) (x : Int32) (r : Int64) (u : SS) : Prop := (∃ j, x = nI j ∧ j < n ∧ r = V j ∧ u = (n - 1, va_cpy K K (j + 1) j (n - (j + 1)), va_cpy V V (j + 1) j (n - (j + 1)))) ∨ (¬ (¬ x < 0 ∧ ¬ nI n ≤ x) ∧ r = NO ∧ u = (n, K, V))
/-- takeOut -/
def ToR (n : Nat) (K V : Nat → Int64) (x y : Int32) (u : SS) : Prop := (∃ i j, x = nI i ∧ y = nI j ∧ i < j ∧ j ≤ n ∧ u = (n - (j - i), va_cpy K K j i (n - j), va_cpy V V j i (n - j))) ∨ (¬ (¬ x < 0 ∧ ¬ y ≤ x ∧ y ≤ nI n) ∧ u = (n, K, V))
/-- find -/
def FiR (n : Nat) (K : Nat → Int64) (key : Int64) (r : Int32) : Prop := (∃ j, j < n ∧ K j = key ∧ r = nI j) ∨ ((∀ j, j < n → K j ≠ key) ∧ r = (-1))
