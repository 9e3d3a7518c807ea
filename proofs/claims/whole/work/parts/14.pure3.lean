/-! Rows: a list of pairs with a number -/
abbrev RT : Type := Int32 × Int32 × Int64
def rl (n : Nat) (fa fb : Nat → Int32) (fv : Nat → Int64) : List RT := (List.range n).map (fun i => (fa i, fb i, fv i))
theorem rl_len (n : Nat) (fa fb : Nat → Int32) (fv : Nat → Int64) : (rl n fa fb fv).length = n := by simp [rl]
theorem rl_get {n : Nat} {fa fb : Nat → Int32} {fv : Nat → Int64} {j : Nat} (h : j < n) : (rl n fa fb fv)[j]? = some (fa j, fb j, fv j) := by
  simp [rl, h]
theorem rl_mem {n : Nat} {fa fb : Nat → Int32} {fv : Nat → Int64} {e : RT} : e ∈ rl n fa fb fv ↔ ∃ j, j < n ∧ e = (fa j, fb j, fv j) := by
  unfold rl
  rw [List.mem_map]
  constructor
  · rintro ⟨j, h1, h2⟩; exact ⟨j, List.mem_range.mp h1, h2.symm⟩
  · rintro ⟨j, h1, h2⟩; exact ⟨j, List.mem_range.mpr h1, h2.symm⟩
theorem rl_ext {n : Nat} {fa fb : Nat → Int32} {fv : Nat → Int64} {l : List RT} (hl : l.length = n) (h : ∀ j, j < n → l[j]? = some (fa j, fb j, fv j)) : rl n fa fb fv = l := by
  apply List.ext_getElem?
  intro j
  rcases Nat.lt_or_ge j n with q | q
  · rw [rl_get q, h j q]
  · rw [List.getElem?_eq_none (by rw [rl_len]; exact q), List.getElem?_eq_none (by omega)]
theorem rl_succ (n : Nat) (fa fb : Nat → Int32) (fv : Nat → Int64) : rl (n + 1) fa fb fv = rl n fa fb fv ++ [(fa n, fb n, fv n)] := by
  unfold rl
  rw [List.range_succ, List.map_append]; rfl
theorem rl_congr {n : Nat} {fa fb ga gb : Nat → Int32} {fv gv : Nat → Int64} (h : ∀ j, j < n → ga j = fa j ∧ gb j = fb j ∧ gv j = fv j) : rl n ga gb gv = rl n fa fb fv :=
  rl_ext (rl_len _ _ _ _) (fun j hj => by rw [rl_get hj, (h j hj).1, (h j hj).2.1, (h j hj).2.2])
def shf {α : Type} (f : Nat → α) (k i : Nat) : Nat → α := fun j => if k ≤ j ∧ j < i then f (j + 1) else f j
theorem shf_0 {α : Type} (f : Nat → α) (k : Nat) : shf f k k = f := by
  funext j
  unfold shf
  rw [if_neg (by omega)]
theorem shf_s {α : Type} {f : Nat → α} {k i : Nat} (h : k ≤ i) (j : Nat) : (if j = i then shf f k i (i + 1) else shf f k i j) = shf f k (i + 1) j := by
  unfold shf
  by_cases e : j = i
  · subst e
    rw [if_pos rfl, if_neg (by omega), if_pos (by omega)]
  · rw [if_neg e]
    by_cases q : k ≤ j ∧ j < i
    · rw [if_pos q, if_pos (by omega)]
    · rw [if_neg q, if_neg (by omega)]
theorem shf_i {f : Nat → Int32} {k i : Nat} (h : k ≤ i) : upd (shf f k i) i (shf f k i (i + 1)) = shf f k (i + 1) := funext fun j => shf_s h j
theorem shf_l {f : Nat → Int64} {k i : Nat} (h : k ≤ i) : vp_updL (shf f k i) i (shf f k i (i + 1)) = shf f k (i + 1) := funext fun j => shf_s h j
theorem rl_era {n k : Nat} {fa fb : Nat → Int32} {fv : Nat → Int64} (h : k < n) : rl (n - 1) (shf fa k (n - 1)) (shf fb k (n - 1)) (shf fv k (n - 1)) = (rl n fa fb fv).eraseIdx k := by
  refine rl_ext (by rw [List.length_eraseIdx, rl_len, if_pos h]) (fun j hj => ?_)
  rw [List.getElem?_eraseIdx]
  unfold shf
  by_cases q : j < k
  · rw [if_pos q, rl_get (by omega), if_neg (by omega), if_neg (by omega), if_neg (by omega)]
  · rw [if_neg q, rl_get (by omega), if_pos (by omega), if_pos (by omega), if_pos (by omega)]
theorem rl_set {n k : Nat} {fa fb : Nat → Int32} {fv : Nat → Int64} (x : Int64) : rl n fa fb (vp_updL fv k x) = (rl n fa fb fv).set k (fa k, fb k, x) := by
  refine rl_ext (by rw [List.length_set, rl_len]) (fun j hj => ?_)
  rw [List.getElem?_set]
  by_cases q : k = j
  · subst q; rw [if_pos rfl, if_pos (by rw [rl_len]; exact hj), pk_uLs]
  · rw [if_neg q, rl_get hj, pk_uLn (fun z => q z.symm)]
theorem cp_s {i : Nat} {fa fb c1 d1 : Nat → Int32} {fv w1 : Nat → Int64} (h : ∀ j, j < i → c1 j = fa j ∧ d1 j = fb j ∧ w1 j = fv j) : ∀ j, j < i + 1 → upd c1 i (fa i) j = fa j ∧ upd d1 i (fb i) j = fb j ∧ vp_updL w1 i (fv i) j = fv j := by
  intro j hj
  by_cases e : j = i
  · subst e; exact ⟨pk_us, pk_us, pk_uLs⟩
  · rw [pk_un e, pk_un e, pk_uLn e]; exact h j (by omega)
theorem rl_add {n : Nat} {fa fb c1 d1 : Nat → Int32} {fv w1 : Nat → Int64} {x y : Int32} {v : Int64} (h : ∀ j, j < n → c1 j = fa j ∧ d1 j = fb j ∧ w1 j = fv j) : rl (n + 1) (upd c1 n x) (upd d1 n y) (vp_updL w1 n v) = rl n fa fb fv ++ [(x, y, v)] := by
  rw [rl_succ, pk_us, pk_us, pk_uLs]
  refine congrArg (fun z => z ++ [(x, y, v)]) (rl_congr fun j hj => ?_)
  rw [pk_un (by omega), pk_un (by omega), pk_uLn (by omega)]
  exact h j hj
/-- find -/
def FdL (l : List RT) (x y : Int32) (r : Int32) : Prop := (∃ j e, l[j]? = some e ∧ e.1 = x ∧ e.2.1 = y ∧ r = nI j) ∨ ((∀ e, e ∈ l → ¬ (e.1 = x ∧ e.2.1 = y)) ∧ r = (-1))
theorem FdL.of {n : Nat} {fa fb : Nat → Int32} {fv : Nat → Int64} {x y : Int32} (h : ∀ j, j < n → ¬ (fa j = x ∧ fb j = y)) : ∀ e, e ∈ rl n fa fb fv → ¬ (e.1 = x ∧ e.2.1 = y) := by
  intro e he
  obtain ⟨j, hj, rfl⟩ := rl_mem.mp he
  exact h j hj
theorem rl_lt {n : Nat} {fa fb : Nat → Int32} {fv : Nat → Int64} {j : Nat} {e : RT} (h : (rl n fa fb fv)[j]? = some e) : j < n ∧ fa j = e.1 ∧ fb j = e.2.1 ∧ fv j = e.2.2 := by
  have hj : j < n := by
    have := (List.getElem?_eq_some_iff.mp h).1
    rw [rl_len] at this
    exact this
  rw [rl_get hj] at h
  cases h
  exact ⟨hj, rfl, rfl, rfl⟩
