/-! points and the table -/
theorem off_in2 {i : Nat} (h : i ≤ 3) : (nI 2 ≤ off i → i = 3) ∧ (¬ nI 2 ≤ off i → i < 3) := by
  match i, h with
  | 0, _ => exact ⟨fun q => absurd q (by decide), fun _ => by decide⟩
  | 1, _ => exact ⟨fun q => absurd q (by decide), fun _ => by decide⟩
  | 2, _ => exact ⟨fun q => absurd q (by decide), fun _ => by decide⟩
  | 3, _ => exact ⟨fun _ => rfl, fun q => absurd (by decide) q⟩
noncomputable def mP (l : List RT) (x y : Int32) : Nat → Nat → Bool := fun i j => pB (∃ e, e ∈ l ∧ e.1 = x + off i ∧ e.2.1 = y + off j)
def okS (l : List RT) (x y : Int32) : Prop := arK (mP l x y) 9 = 3 ∨ (arK (mP l x y) 9 = 2 ∧ ∃ e, e ∈ l ∧ e.1 = x ∧ e.2.1 = y)
def cX (fa : Nat → Int32) (t : Nat) : Int32 := fa (t / 9) + off (t % 9 / 3)
def cY (fb : Nat → Int32) (t : Nat) : Int32 := fb (t / 9) + off (t % 3)
noncomputable def thn (l : List RT) (fa fb : Nat → Int32) : Nat → List RT
  | 0 => []
  | t + 1 => bif pB (okS l (cX fa t) (cY fb t) ∧ ¬ ∃ e, e ∈ thn l fa fb t ∧ e.1 = cX fa t ∧ e.2.1 = cY fb t) then thn l fa fb t ++ [(cX fa t, cY fb t, 0)] else thn l fa fb t
theorem thn_yes {l : List RT} {fa fb : Nat → Int32} {t : Nat} (h : okS l (cX fa t) (cY fb t) ∧ ¬ ∃ e, e ∈ thn l fa fb t ∧ e.1 = cX fa t ∧ e.2.1 = cY fb t) : thn l fa fb (t + 1) = thn l fa fb t ++ [(cX fa t, cY fb t, 0)] := by
  show (bif pB _ then _ else _) = _
  rw [pB_t h]; rfl
theorem thn_no {l : List RT} {fa fb : Nat → Int32} {t : Nat} (h : ¬ (okS l (cX fa t) (cY fb t) ∧ ¬ ∃ e, e ∈ thn l fa fb t ∧ e.1 = cX fa t ∧ e.2.1 = cY fb t)) : thn l fa fb (t + 1) = thn l fa fb t := by
  show (bif pB _ then _ else _) = _
  rw [pB_f h]; rfl
theorem thn_len (l : List RT) (fa fb : Nat → Int32) : ∀ t, (thn l fa fb t).length ≤ t
  | 0 => Nat.le_refl _
  | t + 1 => by
    have h := thn_len l fa fb t
    by_cases q : okS l (cX fa t) (cY fb t) ∧ ¬ ∃ e, e ∈ thn l fa fb t ∧ e.1 = cX fa t ∧ e.2.1 = cY fb t
    · rw [thn_yes q, List.length_append]; exact Nat.succ_le_succ h
    · rw [thn_no q]; exact Nat.le_succ_of_le h
theorem thn_0 (l : List RT) (fa fb : Nat → Int32) : ∀ t e, e ∈ thn l fa fb t → e.2.2 = 0
  | 0, e, h => absurd h List.not_mem_nil
  | t + 1, e, h => by
    by_cases q : okS l (cX fa t) (cY fb t) ∧ ¬ ∃ e, e ∈ thn l fa fb t ∧ e.1 = cX fa t ∧ e.2.1 = cY fb t
    · rw [thn_yes q] at h
      rcases List.mem_append.mp h with z | z
      · exact thn_0 l fa fb t e z
      · rw [List.mem_singleton.mp z]
    · rw [thn_no q] at h; exact thn_0 l fa fb t e h
theorem cX_eq {fa : Nat → Int32} {k i j : Nat} (hi : i < 3) (hj : j < 3) : cX fa (9 * k + 3 * i + j) = fa k + off i := by
  unfold cX
  rw [show (9 * k + 3 * i + j) / 9 = k by omega, show (9 * k + 3 * i + j) % 9 / 3 = i by omega]
theorem cY_eq {fb : Nat → Int32} {k i j : Nat} (hi : i < 3) (hj : j < 3) : cY fb (9 * k + 3 * i + j) = fb k + off j := by
  unfold cY
  rw [show (9 * k + 3 * i + j) / 9 = k by omega, show (9 * k + 3 * i + j) % 3 = j by omega]
theorem ite3 {p : Prop} (h : Decidable p) : (if p then 3 else 0) ≤ 3 := by split <;> omega
noncomputable def rwF (n : Nat) (fa : Nat → Int32) : Nat := cntF (fun k => pB (∀ i, i < k → fa i ≠ fa k)) n
def EdR (n : Nat) (fa fb : Nat → Int32) (r0 : Int32) (o : Option Nat) : Prop := match o with
  | none => ∀ j, j < n → fa j ≠ r0
  | some b => b < n ∧ fa b = r0 ∧ ∀ j, j < n → fa j = r0 → fb j ≤ fb b
def eV (fb : Nat → Int32) : Option Nat → Int64
  | none => 4611686018427387904
  | some b => (fb b).toInt64
theorem EdR.skip {i : Nat} {fa fb : Nat → Int32} {r0 : Int32} {o : Option Nat} (h : EdR i fa fb r0 o) (hk : fa i ≠ r0) : EdR (i + 1) fa fb r0 o := by
  cases o with
  | none => exact lt_s1 h hk
  | some b => exact ⟨Nat.lt_succ_of_lt h.1, h.2.1, lt_s1 h.2.2 (fun q => absurd q hk)⟩
theorem EdR.first {i : Nat} {fa fb : Nat → Int32} {r0 : Int32} (h : EdR i fa fb r0 none) (hk : fa i = r0) : EdR (i + 1) fa fb r0 (some i) :=
  ⟨Nat.lt_succ_self i, hk, lt_s1 (fun j hj q => absurd q (h j hj)) (fun _ => Int32.le_refl _)⟩
theorem i64lt {x y : Int32} : x.toInt64 < y.toInt64 ↔ x < y := by
  rw [Int64.lt_iff_toInt_lt, ext64, ext64, ← Int32.lt_iff_toInt_lt]
theorem EdR.take {i b : Nat} {fa fb : Nat → Int32} {r0 : Int32} (h : EdR i fa fb r0 (some b)) (hk : fa i = r0) (hb : (fb b).toInt64 < (fb i).toInt64) : EdR (i + 1) fa fb r0 (some i) :=
  ⟨Nat.lt_succ_self i, hk, lt_s1 (fun j hj q => Int32.le_trans (h.2.2 j hj q) (Int32.le_of_lt (i64lt.mp hb))) (fun _ => Int32.le_refl _)⟩
theorem EdR.stay {i b : Nat} {fa fb : Nat → Int32} {r0 : Int32} (h : EdR i fa fb r0 (some b)) (hb : ¬ (fb b).toInt64 < (fb i).toInt64) : EdR (i + 1) fa fb r0 (some b) :=
  ⟨Nat.lt_succ_of_lt h.1, h.2.1, lt_s1 h.2.2 (fun _ => Int32.not_lt.mp (fun z => hb (i64lt.mpr z)))⟩
theorem ne_no (x : Int32) : ¬ x.toInt64 = 4611686018427387904 := by
  intro q
  have h := i32_rng x
  have e : x.toInt64.toInt = 4611686018427387904 := by rw [q]; rfl
  rw [ext64] at e
  omega
