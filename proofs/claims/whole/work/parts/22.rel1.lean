/-! the sorted rows and the model's rows: the same pairs -/
theorem era_perm {α : Type} {l : List α} {i : Nat} {x : α} (h : l[i]? = some x) : l.Perm (x :: l.eraseIdx i) := by
  obtain ⟨h1, h2⟩ := List.getElem?_eq_some_iff.mp h
  have e : l = l.take i ++ x :: l.drop (i + 1) := by
    rw [← h2, ← List.drop_eq_getElem_cons h1, List.take_append_drop]
  rw [List.eraseIdx_eq_take_drop_succ]
  exact (List.Perm.of_eq e).trans List.perm_middle
theorem set_perm {α : Type} {l : List α} {i : Nat} {x : α} (y : α) (h : l[i]? = some x) : (l.set i y).Perm (y :: l.eraseIdx i) := by
  obtain ⟨h1, h2⟩ := List.getElem?_eq_some_iff.mp h
  rw [List.set_eq_take_append_cons_drop, if_pos h1, List.eraseIdx_eq_take_drop_succ]
  exact List.perm_middle
section RelL
variable {α β : Type} {f : β → α} {L : List α} {M : List β} {i j : Nat} {x y : α} {e e' : β}
theorem rel_era (h : L.Perm (M.map f)) (hi : L[i]? = some x) (hj : M[j]? = some e) (hx : x = f e) : (L.eraseIdx i).Perm ((M.eraseIdx j).map f) := by
  have h1 := era_perm hi
  have h2 := (era_perm hj).map f
  rw [List.map_cons, ← hx] at h2
  exact ((h1.symm.trans h).trans h2).cons_inv
theorem rel_set (h : L.Perm (M.map f)) (hi : L[i]? = some x) (hj : M[j]? = some e) (hx : x = f e) (hy : y = f e') : (L.set i y).Perm ((M.set j e').map f) := by
  have h1 := set_perm y hi
  have h2 := (set_perm e' hj).map f
  rw [List.map_cons, ← hy] at h2
  exact h1.trans (((rel_era h hi hj hx).cons y).trans h2.symm)
theorem rel_app (h : L.Perm (M.map f)) {L' : List α} (hl : L'.Perm (y :: L)) (hy : y = f e) : L'.Perm ((M ++ [e]).map f) := by
  rw [List.map_append]
  exact hl.trans ((h.cons y).trans (by rw [hy]; exact (List.perm_append_singleton (f e) (M.map f)).symm))
end RelL
def xl (u : SS) : List (Int64 × Int64) := (List.range u.1).map (fun i => (u.2.1 i, u.2.2 i))
theorem xl_len (u : SS) : (xl u).length = u.1 := by simp [xl]
theorem xl_get {u : SS} {j : Nat} (h : j < u.1) : (xl u)[j]? = some (u.2.1 j, u.2.2 j) := by simp [xl, h]
theorem xl_mem {u : SS} {q : Int64 × Int64} : q ∈ xl u ↔ ∃ j, j < u.1 ∧ q = (u.2.1 j, u.2.2 j) := by
  unfold xl
  rw [List.mem_map]
  constructor
  · rintro ⟨j, h1, h2⟩; exact ⟨j, List.mem_range.mp h1, h2.symm⟩
  · rintro ⟨j, h1, h2⟩; exact ⟨j, List.mem_range.mpr h1, h2.symm⟩
theorem xl_ext {u : SS} {l : List (Int64 × Int64)} (hl : l.length = u.1) (h : ∀ j, j < u.1 → l[j]? = some (u.2.1 j, u.2.2 j)) : xl u = l := by
  apply List.ext_getElem?
  intro j
  rcases Nat.lt_or_ge j u.1 with q | q
  · rw [xl_get q, h j q]
  · rw [List.getElem?_eq_none (by rw [xl_len]; exact q), List.getElem?_eq_none (by omega)]
theorem xl_era {n j : Nat} {K V : Nat → Int64} (h : j < n) : xl (rmS n K V j) = (xl (n, K, V)).eraseIdx j := by
  refine xl_ext (by rw [List.length_eraseIdx, xl_len, if_pos h]; rfl) (fun i hi => ?_)
  have hi' : i < n - 1 := hi
  rw [List.getElem?_eraseIdx]
  show _ = some (va_cpy K K (j + 1) j (n - (j + 1)) i, va_cpy V V (j + 1) j (n - (j + 1)) i)
  by_cases q : i < j
  · rw [if_pos q, xl_get (show i < n by omega), pk_cpy_out (Or.inl q), pk_cpy_out (Or.inl q)]
  · rw [if_neg q, xl_get (show i + 1 < n by omega), pk_cpy_in (by omega) (by omega), pk_cpy_in (by omega) (by omega), show j + 1 + (i - j) = i + 1 by omega]
theorem xl_set {n j : Nat} {K V : Nat → Int64} (x : Int64) : xl (n, K, vp_updL V j x) = (xl (n, K, V)).set j (K j, x) := by
  refine xl_ext (by rw [List.length_set, xl_len]) (fun i hi => ?_)
  have hi' : i < n := hi
  rw [List.getElem?_set]
  show _ = some (K i, vp_updL V j x i)
  by_cases q : j = i
  · subst q; rw [if_pos rfl, if_pos (by rw [xl_len]; exact hi), pk_uLs]
  · rw [if_neg q, xl_get hi', pk_uLn (fun z => q z.symm)]
theorem xl_ins {n b : Nat} {K V : Nat → Int64} (k v : Int64) (hb : b ≤ n) : xl (n + 1, inS K n b k, inS V n b v) = (xl (n, K, V)).take b ++ (k, v) :: (xl (n, K, V)).drop b := by
  have hl : ((xl (n, K, V)).take b).length = b := by rw [List.length_take, xl_len]; exact Nat.min_eq_left hb
  refine xl_ext (by rw [List.length_append, List.length_cons, hl, List.length_drop, xl_len]; show b + (n - b + 1) = n + 1; omega) (fun i hi => ?_)
  have hi' : i < n + 1 := hi
  show _ = some (inS K n b k i, inS V n b v i)
  rcases Nat.lt_trichotomy i b with q | q | q
  · rw [List.getElem?_append_left (by omega), List.getElem?_take, if_pos q, xl_get (show i < n by omega), inS_lo q, inS_lo q]
  · subst q
    rw [List.getElem?_append_right (by omega), hl, Nat.sub_self, inS_at, inS_at]; rfl
  · rw [List.getElem?_append_right (by omega), hl, show i - b = (i - b - 1) + 1 by omega, List.getElem?_cons_succ, List.getElem?_drop, show b + (i - b - 1) = i - 1 by omega, xl_get (show i - 1 < n by omega), inS_hi q (by omega), inS_hi q (by omega)]
theorem xl_insP {n b : Nat} {K V : Nat → Int64} (k v : Int64) (hb : b ≤ n) : (xl (n + 1, inS K n b k, inS V n b v)).Perm ((k, v) :: xl (n, K, V)) := by
  rw [xl_ins k v hb]
  refine List.perm_middle.trans (List.Perm.of_eq ?_)
  rw [List.take_append_drop]
def fK (e : RT) : Int64 × Int64 := (pk e.1 e.2.1, e.2.2)
/-- a sorted row and the model's row hold the same -/
def RC (c : Nat) (u : SS) (l : List RT) : Prop := Sst u.1 u.2.1 ∧ u.1 ≤ c ∧ (xl u).Perm (l.map fK)
theorem RC.len {c : Nat} {u : SS} {l : List RT} (h : RC c u l) : l.length = u.1 := by
  have := h.2.2.length_eq
  rw [xl_len, List.length_map] at this
  exact this.symm
theorem RC.mono {c d : Nat} {u : SS} {l : List RT} (h : RC c u l) (hd : c ≤ d) : RC d u l := ⟨h.1, Nat.le_trans h.2.1 hd, h.2.2⟩
theorem Sst.inj {n : Nat} {K : Nat → Int64} (h : Sst n K) {i j : Nat} (hi : i < n) (hj : j < n) (e : K i = K j) : i = j := by
  rcases Nat.lt_trichotomy i j with q | q | q
  · exact absurd (h i j q hj) (by rw [e]; exact Int64.lt_irrefl)
  · exact q
  · exact absurd (h j i q hi) (by rw [e]; exact Int64.lt_irrefl)
/-- what is in the model's row is in the sorted one -/
theorem RC.toX {c : Nat} {n : Nat} {K V : Nat → Int64} {l : List RT} (h : RC c (n, K, V) l) {e : RT} (he : e ∈ l) : ∃ i, i < n ∧ K i = pk e.1 e.2.1 ∧ V i = e.2.2 := by
  have h1 : fK e ∈ xl (n, K, V) := h.2.2.mem_iff.mpr (List.mem_map_of_mem he)
  obtain ⟨i, hi, q⟩ := xl_mem.mp h1
  injection q with q1 q2
  exact ⟨i, hi, q1.symm, q2.symm⟩
theorem RC.toM {c : Nat} {n : Nat} {K V : Nat → Int64} {l : List RT} (h : RC c (n, K, V) l) {i : Nat} (hi : i < n) : ∃ e, e ∈ l ∧ K i = pk e.1 e.2.1 ∧ V i = e.2.2 := by
  have h1 : (K i, V i) ∈ l.map fK := h.2.2.mem_iff.mp (xl_mem.mpr ⟨i, hi, rfl⟩)
  obtain ⟨e, he, q⟩ := List.mem_map.mp h1
  injection q with q1 q2
  exact ⟨e, he, q1.symm, q2.symm⟩
/-- the same pair, found on both sides -/
theorem RC.both {c : Nat} {n : Nat} {K V : Nat → Int64} {l : List RT} (h : RC c (n, K, V) l) {i : Nat} (hi : i < n) {e : RT} (he : e ∈ l) {a b : Int32} (hk : K i = pk a b) (ha : e.1 = a) (hb : e.2.1 = b) : (K i, V i) = fK e := by
  obtain ⟨j, hj, q1, q2⟩ := h.toX he
  have e1 : j = i := h.1.inj hj hi (by show K j = K i; rw [q1, hk, ha, hb])
  subst e1
  show (K j, V j) = (pk e.1 e.2.1, e.2.2)
  rw [q1, q2]
theorem RC.noM {c : Nat} {n : Nat} {K V : Nat → Int64} {l : List RT} (h : RC c (n, K, V) l) {i : Nat} (hi : i < n) {a b : Int32} (hk : K i = pk a b) (hn : ∀ e, e ∈ l → ¬ (e.1 = a ∧ e.2.1 = b)) : False := by
  obtain ⟨e, he, q1, -⟩ := h.toM hi
  exact hn e he (pk_inj (by rw [← q1, hk]))
theorem RC.noX {c : Nat} {n : Nat} {K V : Nat → Int64} {l : List RT} (h : RC c (n, K, V) l) {e : RT} (he : e ∈ l) {a b : Int32} (ha : e.1 = a) (hb : e.2.1 = b) (hn : ∀ i, i < n → K i ≠ pk a b) : False := by
  obtain ⟨j, hj, q1, -⟩ := h.toX he
  exact hn j hj (by rw [q1, ha, hb])
theorem RC.look {c : Nat} {n : Nat} {K V : Nat → Int64} {l : List RT} {a b : Int32} {r1 r2 : Int64} (h : RC c (n, K, V) l) (h1 : LkR n K V (pk a b) r1) (h2 : LkL l a b r2) : r1 = r2 := by
  rcases h1 with ⟨i, hi, hk, rfl⟩ | ⟨hn, rfl⟩ <;> rcases h2 with ⟨j, e, he, ha, hb, rfl⟩ | ⟨hm, rfl⟩
  · exact (Prod.mk.inj (h.both hi (List.mem_of_getElem? he) hk ha hb)).2
  · exact (h.noM hi hk hm).elim
  · exact (h.noX (List.mem_of_getElem? he) ha hb hn).elim
  · rfl
/-- a pair that was there has another number -/
theorem RC.set {c : Nat} {n : Nat} {K V : Nat → Int64} {l : List RT} {a b : Int32} {i j : Nat} {e : RT} {v : Int64} (h : RC c (n, K, V) l) (hi : i < n) (he : l[j]? = some e) (hk : K i = pk a b) (ha : e.1 = a) (hb : e.2.1 = b) : RC (c + 1) (n, K, vp_updL V i v) (l.set j (a, b, v)) := by
  have hx := h.both hi (List.mem_of_getElem? he) hk ha hb
  refine ⟨h.1, Nat.le_succ_of_le h.2.1, ?_⟩
  rw [xl_set, hk]
  exact rel_set h.2.2 (xl_get hi) he hx rfl
theorem RC.app {c : Nat} {n : Nat} {K V : Nat → Int64} {l : List RT} {a b : Int32} {i : Nat} {v : Int64} (h : RC c (n, K, V) l) (hb : BL n K (pk a b) i) (hk : i < n → K i ≠ pk a b) : RC (c + 1) (n + 1, inS K n i (pk a b), inS V n i v) (l ++ [(a, b, v)]) :=
  ⟨h.1.ins hb hk, Nat.succ_le_succ h.2.1, rel_app h.2.2 (xl_insP _ _ hb.1) rfl⟩
theorem RC.del {c : Nat} {n : Nat} {K V : Nat → Int64} {l : List RT} {i j : Nat} {e : RT} (h : RC c (n, K, V) l) (hi : i < n) (he : l[j]? = some e) (hx : (K i, V i) = fK e) : RC c (rmS n K V i) (l.eraseIdx j) := by
  have hc : n ≤ c := h.2.1
  refine ⟨?_, (show n - 1 ≤ c by omega), ?_⟩
  · intro p q hpq hq
    have hq' : q < n - 1 := hq
    show va_cpy K K (i + 1) i (n - (i + 1)) p < va_cpy K K (i + 1) i (n - (i + 1)) q
    by_cases z1 : p < i
    · rw [pk_cpy_out (Or.inl z1)]
      by_cases z2 : q < i
      · rw [pk_cpy_out (Or.inl z2)]; exact h.1 p q hpq (show q < n by omega)
      · rw [pk_cpy_in (by omega) (by omega)]; exact h.1 p _ (by omega) (show _ < n by omega)
    · rw [pk_cpy_in (by omega) (by omega), pk_cpy_in (by omega) (by omega)]; exact h.1 _ _ (by omega) (show _ < n by omega)
  · rw [xl_era hi]
    exact rel_era h.2.2 (xl_get hi) he hx
theorem RC.add {c : Nat} {n : Nat} {K V : Nat → Int64} {l l' : List RT} {a b : Int32} {z r1 r2 : Int64} {u : SS} (h : RC c (n, K, V) l) (h1 : RaR n K V (pk a b) z r1 u) (h2 : AdL l a b z r2 l') : r1 = r2 ∧ RC (c + 1) u l' := by
  rcases h1 with ⟨i, hb, hi, hk, rfl, rfl⟩ | ⟨i, hb, hk, rfl, rfl⟩ <;> rcases h2 with ⟨j, e, he, ha, hb2, rfl, rfl⟩ | ⟨hm, rfl, rfl⟩
  · have hx := (Prod.mk.inj (h.both hi (List.mem_of_getElem? he) hk ha hb2)).2
    rw [← hx]
    exact ⟨rfl, h.set hi he hk ha hb2⟩
  · exact (h.noM hi hk hm).elim
  · exact (h.noX (List.mem_of_getElem? he) ha hb2 (BL.miss h.1.srt hb hk)).elim
  · exact ⟨rfl, h.app hb hk⟩
theorem RC.store {c : Nat} {n : Nat} {K V : Nat → Int64} {l l' : List RT} {a b : Int32} {z r1 r2 : Int64} {u : SS} (h : RC c (n, K, V) l) (h1 : StR n K V (pk a b) z r1 u) (h2 : StL l a b z r2 l') : r1 = r2 ∧ RC (c + 1) u l' := by
  rcases h1 with ⟨i, hb, hi, hk, rfl, rfl⟩ | ⟨i, hb, hk, rfl, rfl⟩ <;> rcases h2 with ⟨j, e, he, ha, hb2, rfl, rfl⟩ | ⟨hm, rfl, rfl⟩
  · exact ⟨(Prod.mk.inj (h.both hi (List.mem_of_getElem? he) hk ha hb2)).2, h.set hi he hk ha hb2⟩
  · exact (h.noM hi hk hm).elim
  · exact (h.noX (List.mem_of_getElem? he) ha hb2 (BL.miss h.1.srt hb hk)).elim
  · exact ⟨rfl, h.app hb hk⟩
theorem RC.drop {c : Nat} {n : Nat} {K V : Nat → Int64} {l l' : List RT} {a b : Int32} {r1 r2 : Int64} {u : SS} (h : RC c (n, K, V) l) (h1 : DrR n K V (pk a b) r1 u) (h2 : DrL l a b r2 l') : r1 = r2 ∧ RC c u l' := by
  rcases h1 with ⟨i, hi, hk, rfl, rfl⟩ | ⟨hn, rfl, rfl⟩ <;> rcases h2 with ⟨j, e, he, ha, hb2, rfl, rfl⟩ | ⟨hm, rfl, rfl⟩
  · have hx := h.both hi (List.mem_of_getElem? he) hk ha hb2
    exact ⟨(Prod.mk.inj hx).2, h.del hi he hx⟩
  · exact (h.noM hi hk hm).elim
  · exact (h.noX (List.mem_of_getElem? he) ha hb2 hn).elim
  · exact ⟨rfl, h⟩
/-- sums don't mind the order -/
def sumL : List (Int64 × Int64) → Int64
  | [] => 0
  | q :: l => sumL l + (31 * (fsK q.1).toInt64 + (snK q.1).toInt64) * q.2
theorem sumL_perm {a b : List (Int64 × Int64)} (h : a.Perm b) : sumL a = sumL b := by
  induction h with
  | nil => rfl
  | cons x _ ih => show sumL _ + _ = sumL _ + _; rw [ih]
  | swap x y l =>
    show sumL l + _ + _ = sumL l + _ + _
    rw [Int64.add_assoc, Int64.add_assoc, Int64.add_comm ((31 * (fsK x.1).toInt64 + (snK x.1).toInt64) * x.2)]
  | trans _ _ i1 i2 => exact i1.trans i2
theorem sumL_app (a : List (Int64 × Int64)) (q : Int64 × Int64) : sumL (a ++ [q]) = sumL a + (31 * (fsK q.1).toInt64 + (snK q.1).toInt64) * q.2 := by
  rw [sumL_perm (List.perm_append_singleton q a)]; rfl
theorem tot_sum (K V : Nat → Int64) : ∀ n, tot K V n = sumL (xl (n, K, V))
  | 0 => rfl
  | n + 1 => by
    have e : xl (n + 1, K, V) = xl (n, K, V) ++ [(K n, V n)] := by
      unfold xl
      show (List.range (n + 1)).map _ = _
      rw [List.range_succ, List.map_append]; rfl
    rw [e, sumL_app, ← tot_sum K V n]; rfl
theorem totF_sum (fa fb : Nat → Int32) (fv : Nat → Int64) : ∀ n, totF fa fb fv n = sumL ((rl n fa fb fv).map fK)
  | 0 => rfl
  | n + 1 => by
    rw [rl_succ, List.map_append]
    show totF fa fb fv n + (31 * (fa n).toInt64 + (fb n).toInt64) * fv n = sumL (_ ++ [(pk (fa n) (fb n), fv n)])
    rw [sumL_app, ← totF_sum fa fb fv n, fsK_pk, snK_pk]
theorem RC.total {c : Nat} {n m : Nat} {K V : Nat → Int64} {fa fb : Nat → Int32} {fv : Nat → Int64} (h : RC c (n, K, V) (rl m fa fb fv)) : tot K V n = totF fa fb fv m := by
  rw [tot_sum, totF_sum]
  exact sumL_perm h.2.2
