/-! sweep, coming, rising -/
theorem xl_succ (n : Nat) (K V : Nat → Int64) : xl (n + 1, K, V) = xl (n, K, V) ++ [(K n, V n)] := by
  unfold xl
  show (List.range (n + 1)).map _ = _
  rw [List.range_succ, List.map_append]; rfl
theorem xl_congr {n : Nat} {K V K' V' : Nat → Int64} (h : ∀ j, j < n → K' j = K j ∧ V' j = V j) : xl (n, K', V') = xl (n, K, V) :=
  xl_ext (xl_len _) (fun j hj => by
    have hj' : j < n := hj
    rw [xl_get hj']
    show some (K j, V j) = some (K' j, V' j)
    rw [(h j hj').1, (h j hj').2])
theorem xl_cmp (P : Int64 → Int64 → Bool) (K V : Nat → Int64) : ∀ i, xl (cmpF P K V i) = (xl (i, K, V)).filter (fun q => P q.1 q.2)
  | 0 => rfl
  | i + 1 => by
    have ih := xl_cmp P K V i
    have hh := cmpF_hi P K V i i (Nat.le_refl _)
    rw [xl_succ, List.filter_append, ← ih]
    cases q : P ((cmpF P K V i).2.1 i) ((cmpF P K V i).2.2 i) with
    | true =>
      obtain ⟨e1, e2, e3⟩ := cmpF_yes q
      rw [hh.1] at e2
      rw [hh.2] at e3
      rw [hh.1, hh.2] at q
      have e : cmpF P K V (i + 1) = ((cmpF P K V i).1 + 1, vp_updL (cmpF P K V i).2.1 (cmpF P K V i).1 (K i), vp_updL (cmpF P K V i).2.2 (cmpF P K V i).1 (V i)) := by
        rw [← e1, ← e2, ← e3]
      rw [e, xl_succ, pk_uLs, pk_uLs, xl_congr (K := (cmpF P K V i).2.1) (V := (cmpF P K V i).2.2) (fun j hj => ⟨pk_uLn (by omega), pk_uLn (by omega)⟩)]
      rw [List.filter_cons_of_pos (by exact q)]
      rfl
    | false =>
      rw [cmpF_no q]
      rw [hh.1, hh.2] at q
      rw [List.filter_cons_of_neg (by show ¬ P (K i) (V i) = true; rw [q]; decide)]
      simp
theorem Sst_iff {n : Nat} {K V : Nat → Int64} : Sst n K ↔ (xl (n, K, V)).Pairwise (fun p q => p.1 < q.1) := by
  rw [List.pairwise_iff_getElem]
  have hg : ∀ i (hi : i < (xl (n, K, V)).length), (xl (n, K, V))[i] = (K i, V i) := by
    intro i hi
    have hi' : i < n := by rw [xl_len] at hi; exact hi
    exact Option.some.inj ((List.getElem?_eq_getElem hi).symm.trans (xl_get hi'))
  constructor
  · intro h i j hi hj hij
    rw [hg, hg]
    rw [xl_len] at hj
    exact h i j hij hj
  · intro h i j hij hj
    have h2 := h i j (by rw [xl_len]; exact Nat.lt_trans hij hj) (by rw [xl_len]; exact hj) hij
    rw [hg, hg] at h2
    exact h2
theorem Sst_cmp {n : Nat} {P : Int64 → Int64 → Bool} {K V : Nat → Int64} (h : Sst n K) : Sst (cmpF P K V n).1 (cmpF P K V n).2.1 := by
  rw [Sst_iff (V := (cmpF P K V n).2.2)]
  show (xl (cmpF P K V n)).Pairwise _
  rw [xl_cmp]
  exact (Sst_iff.mp h).filter _
theorem even_iff (x : Int32) : x &&& nI 1 = 0 ↔ x - x / nI 2 * nI 2 = 0 := by
  have h1 : x &&& nI 1 = nI (x.toBitVec.toNat % 2) := pk_and x 1 (by decide)
  have hx := i32_rng x
  have e2 : (nI 2).toInt = 2 := by decide
  have ht : x.toInt.tdiv 2 = if 0 ≤ x.toInt then x.toInt / 2 else -((-x.toInt) / 2) := by
    by_cases z : 0 ≤ x.toInt
    · rw [if_pos z, Int.tdiv_eq_ediv_of_nonneg z]
    · rw [if_neg z]
      have y := Int.neg_tdiv (a := -x.toInt) (b := 2)
      rw [Int.neg_neg, Int.tdiv_eq_ediv_of_nonneg (a := -x.toInt) (by omega)] at y
      exact y
  have ht2 : x.toInt - 1 ≤ x.toInt.tdiv 2 * 2 ∧ x.toInt.tdiv 2 * 2 ≤ x.toInt + 1 ∧ (x.toInt.tdiv 2 * 2 = x.toInt ↔ x.toInt % 2 = 0) ∧ (0 ≤ x.toInt → x.toInt.tdiv 2 * 2 ≤ x.toInt) ∧ (x.toInt < 0 → x.toInt ≤ x.toInt.tdiv 2 * 2) := by
    rw [ht]
    split <;> omega
  have hd : (x / nI 2).toInt = x.toInt.tdiv 2 := by
    rw [Int32.toInt_div, e2, bm32 (by omega) (by omega)]
  have hm : (x / nI 2 * nI 2).toInt = x.toInt.tdiv 2 * 2 := by
    rw [Int32.toInt_mul, hd, e2, bm32 (by omega) (by omega)]
  have hs : (x - x / nI 2 * nI 2).toInt = x.toInt - x.toInt.tdiv 2 * 2 := by
    rw [Int32.toInt_sub, hm, bm32 (by omega) (by omega)]
  have hz : (0 : Int32).toInt = 0 := rfl
  have hn : x.toInt = (x.toBitVec.toNat : Int) ∨ x.toInt = (x.toBitVec.toNat : Int) - 4294967296 := by
    show x.toBitVec.toInt = _ ∨ x.toBitVec.toInt = _
    rw [BitVec.toInt_eq_toNat_cond]
    split
    · exact Or.inl rfl
    · exact Or.inr rfl
  have hl : x.toBitVec.toNat % 2 < 2 := Nat.mod_lt _ (by decide)
  rw [h1, ← Int32.toInt_inj, ← Int32.toInt_inj, hs, hz, nI_toInt (by omega)]
  omega
theorem ev_pk (e : RT) : evK (pk e.1 e.2.1) ↔ evR e := by
  unfold evK evR
  rw [fsK_pk, snK_pk]
  exact even_iff _
theorem pB_congr {p q : Prop} (h : p ↔ q) : pB p = pB q := by
  by_cases z : p
  · rw [pB_t z, pB_t (h.mp z)]
  · rw [pB_f z, pB_f (fun y => z (h.mpr y))]
theorem RC.sweep {c n : Nat} {K V : Nat → Int64} {l : List RT} (h : RC c (n, K, V) l) : RC c (cmpF (fun k _ => pB (¬ evK k)) K V n) (l.filter (fun e => pB (¬ evR e))) := by
  refine ⟨Sst_cmp h.1, Nat.le_trans (cmpF_le _ _ _ _) h.2.1, ?_⟩
  rw [xl_cmp]
  have h1 := h.2.2.filter (fun q => pB (¬ evK q.1))
  rw [List.filter_map] at h1
  have e : l.filter ((fun q : Int64 × Int64 => pB (¬ evK q.1)) ∘ fK) = l.filter (fun e => pB (¬ evR e)) :=
    List.filter_congr (fun e _ => pB_congr (not_congr (ev_pk e)))
  rw [e] at h1
  exact h1
/-- in the order of coming -/
def pkE (e : RT) : Int64 := pk e.1 e.2.1
def RO (c : Nat) (u : SS) (turn : Int64) (l : List RT) : Prop := Sst u.1 u.2.1 ∧ u.1 ≤ c ∧ (∀ i, i < u.1 → u.2.1 i < turn) ∧ (∃ tr, tr ≤ c ∧ turn = lN tr) ∧ (xl u).map (·.2) = l.map pkE ∧ (l.map pkE).Nodup
theorem RO.len {c : Nat} {u : SS} {t : Int64} {l : List RT} (h : RO c u t l) : l.length = u.1 := by
  have := congrArg List.length h.2.2.2.2.1
  rw [List.length_map, List.length_map, xl_len] at this
  exact this.symm
theorem RO.mono {c d : Nat} {u : SS} {t : Int64} {l : List RT} (h : RO c u t l) (hd : c ≤ d) : RO d u t l := ⟨h.1, Nat.le_trans h.2.1 hd, h.2.2.1, h.2.2.2.1.elim fun tr q => ⟨tr, Nat.le_trans q.1 hd, q.2⟩, h.2.2.2.2⟩
theorem RO.at {c n : Nat} {K V : Nat → Int64} {t : Int64} {l : List RT} (h : RO c (n, K, V) t l) {i : Nat} {e : RT} (he : l[i]? = some e) : i < n ∧ V i = pkE e := by
  have hi : i < n := by
    have := (List.getElem?_eq_some_iff.mp he).1
    rw [h.len] at this
    exact this
  have h1 : ((xl (n, K, V)).map (·.2))[i]? = (l.map pkE)[i]? := by rw [h.2.2.2.2.1]
  rw [List.getElem?_map, List.getElem?_map, xl_get hi, he] at h1
  exact ⟨hi, Option.some.inj h1⟩
theorem RO.at2 {c n : Nat} {K V : Nat → Int64} {t : Int64} {l : List RT} (h : RO c (n, K, V) t l) {i : Nat} (hi : i < n) : ∃ e, l[i]? = some e ∧ V i = pkE e := by
  have hi2 : i < l.length := by rw [h.len]; exact hi
  exact ⟨l[i], List.getElem?_eq_getElem hi2, (h.at (List.getElem?_eq_getElem hi2)).2⟩
theorem RO.come {c n : Nat} {K V : Nat → Int64} {t : Int64} {l l' : List RT} {a b : Int32} {r1 r2 : Int32} {u : SS × Int64} (h : RO c (n, K, V) t l) (hc : c ≤ 1000)
    (h1 : ((∃ j, j < n ∧ V j = pk a b) ∧ u = ((n, K, V), t) ∧ r1 = nI 0) ∨ ((∀ j, j < n → V j ≠ pk a b) ∧ (∃ r0, StR n K V t (pk a b) r0 u.1) ∧ u.2 = t + 1 ∧ r1 = nI 1))
    (h2 : ((∃ e, e ∈ l ∧ e.1 = a ∧ e.2.1 = b) ∧ l' = l ∧ r2 = nI 0) ∨ ((∀ e, e ∈ l → ¬ (e.1 = a ∧ e.2.1 = b)) ∧ l' = l ++ [(a, b, 0)] ∧ r2 = nI 1)) : r1 = r2 ∧ RO (c + 1) u.1 u.2 l' := by
  rcases h1 with ⟨⟨j, hj, hv⟩, rfl, rfl⟩ | ⟨hn, ⟨r0, hst⟩, hu, rfl⟩ <;> rcases h2 with ⟨⟨e, he, ha, hb⟩, rfl, rfl⟩ | ⟨hm, rfl, rfl⟩
  · exact ⟨rfl, h.mono (Nat.le_succ c)⟩
  · obtain ⟨e, he, q⟩ := h.at2 hj
    exact (hm e (List.mem_of_getElem? he) (pk_inj (q.symm.trans hv))).elim
  · obtain ⟨i, hi⟩ := List.getElem?_of_mem he
    have q := h.at hi
    exact (hn i q.1 (q.2.trans (by show pk e.1 e.2.1 = _; rw [ha, hb]))).elim
  · refine ⟨rfl, ?_⟩
    have hlt : ∀ i, i < n → K i < t := h.2.2.1
    rcases hst with ⟨i, hb, hi, hk, -, -⟩ | ⟨i, hb, hk, -, hu1⟩
    · exact absurd (hlt i hi) (by rw [hk]; exact Int64.lt_irrefl)
    · have hin : i = n := by
        rcases Nat.lt_or_ge i n with q | q
        · exact absurd (hlt i q) (Int64.not_lt.mpr (hb.2.2 i (Nat.le_refl _) q))
        · exact Nat.le_antisymm hb.1 q
      subst hin
      obtain ⟨tr, htr, ht⟩ := h.2.2.2.1
      have hlt2 : t < t + 1 := by
        rw [ht, lN_1, lN_lt (by omega) (by omega)]; omega
      rw [hu1, hu]
      refine ⟨h.1.ins hb hk, Nat.succ_le_succ h.2.1, ?_, ⟨tr + 1, Nat.succ_le_succ htr, by rw [ht, lN_1]⟩, ?_, ?_⟩
      · intro j hj
        have hj' : j < i + 1 := hj
        show inS K i i t j < t + 1
        rcases Nat.lt_or_ge j i with q | q
        · rw [inS_lo q]; exact Int64.lt_trans (hlt j q) hlt2
        · rw [show j = i by omega, inS_at]; exact hlt2
      · rw [xl_ins t (pk a b) (Nat.le_refl i), List.take_of_length_le (by rw [xl_len]; exact Nat.le_refl _), List.drop_of_length_le (by rw [xl_len]; exact Nat.le_refl _), List.map_append, List.map_append]
        have e := h.2.2.2.2.1
        rw [e]; rfl
      · rw [List.map_append]
        refine List.nodup_append.mpr ⟨h.2.2.2.2.2, by simp, ?_⟩
        intro x hx y hy q
        obtain ⟨e, he, rfl⟩ := List.mem_map.mp hx
        have hy' : y = pk a b := by simpa [pkE] using hy
        exact hm e he (pk_inj (by rw [← hy', ← q]; rfl))
theorem nodup_idx {α : Type} {l : List α} (h : l.Nodup) {i j : Nat} {x : α} (hi : l[i]? = some x) (hj : l[j]? = some x) : i = j := by
  obtain ⟨h1, h2⟩ := List.getElem?_eq_some_iff.mp hi
  obtain ⟨h3, h4⟩ := List.getElem?_eq_some_iff.mp hj
  have hp := List.pairwise_iff_getElem.mp h
  rcases Nat.lt_trichotomy i j with q | q | q
  · exact absurd (h2.trans h4.symm) (hp i j h1 h3 q)
  · exact q
  · exact absurd (h4.trans h2.symm) (hp j i h3 h1 q)
theorem xl_era_map {n j : Nat} {K V : Nat → Int64} (h : j < n) {l : List RT} (e : (xl (n, K, V)).map (·.2) = l.map pkE) : (xl (rmS n K V j)).map (·.2) = (l.eraseIdx j).map pkE := by
  rw [xl_era h, List.eraseIdx_eq_take_drop_succ, List.eraseIdx_eq_take_drop_succ, List.map_append, List.map_append, List.map_take, List.map_drop, e, List.map_take, List.map_drop]
theorem rmS_st {n j : Nat} {K V : Nat → Int64} (h : Sst n K) (hj : j < n) : Sst (rmS n K V j).1 (rmS n K V j).2.1 := by
  rw [Sst_iff (V := (rmS n K V j).2.2)]
  show (xl (rmS n K V j)).Pairwise _
  rw [xl_era hj]
  exact (Sst_iff.mp h).sublist (List.eraseIdx_sublist _ _)
theorem rmS_lt {n j : Nat} {K V : Nat → Int64} {p : Int64 → Prop} (h : ∀ i, i < n → p (K i)) (hj : j < n) : ∀ i, i < (rmS n K V j).1 → p ((rmS n K V j).2.1 i) := by
  intro i hi
  have hi' : i < n - 1 := hi
  show p (va_cpy K K (j + 1) j (n - (j + 1)) i)
  by_cases q : i < j
  · rw [pk_cpy_out (Or.inl q)]; exact h i (by omega)
  · rw [pk_cpy_in (by omega) (by omega)]; exact h _ (by omega)
theorem RO.leave {c n : Nat} {K V : Nat → Int64} {t : Int64} {l l' : List RT} {a b : Int32} {r1 r2 : Int32} {u : SS} (h : RO c (n, K, V) t l)
    (h1 : (∃ j, j < n ∧ V j = pk a b ∧ u = rmS n K V j ∧ r1 = nI 1) ∨ ((∀ j, j < n → V j ≠ pk a b) ∧ u = (n, K, V) ∧ r1 = nI 0))
    (h2 : (∃ (j : Nat) (e : RT), l[j]? = some e ∧ e.1 = a ∧ e.2.1 = b ∧ l' = l.eraseIdx j ∧ r2 = nI 1) ∨ ((∀ e, e ∈ l → ¬ (e.1 = a ∧ e.2.1 = b)) ∧ l' = l ∧ r2 = nI 0)) : r1 = r2 ∧ RO c u t l' := by
  rcases h1 with ⟨j, hj, hv, rfl, rfl⟩ | ⟨hn, rfl, rfl⟩ <;> rcases h2 with ⟨k, e, he, ha, hb, rfl, rfl⟩ | ⟨hm, rfl, rfl⟩
  · obtain ⟨e2, he2, q⟩ := h.at2 hj
    have hjk : j = k := by
      refine nodup_idx h.2.2.2.2.2 (x := pk a b) ?_ ?_
      · rw [List.getElem?_map, he2]; exact congrArg some (q.symm.trans hv)
      · rw [List.getElem?_map, he]; exact congrArg some (by show pk e.1 e.2.1 = _; rw [ha, hb])
    subst hjk
    have hc : n ≤ c := h.2.1
    exact ⟨rfl, rmS_st h.1 hj, (show n - 1 ≤ c by omega), rmS_lt (p := fun z => z < t) h.2.2.1 hj, h.2.2.2.1, xl_era_map hj h.2.2.2.2.1, h.2.2.2.2.2.sublist ((List.eraseIdx_sublist _ _).map _)⟩
  · obtain ⟨e, he, q⟩ := h.at2 hj
    exact (hm e (List.mem_of_getElem? he) (pk_inj (q.symm.trans hv))).elim
  · have q := h.at he
    exact (hn k q.1 (q.2.trans (by show pk e.1 e.2.1 = _; rw [ha, hb]))).elim
  · exact ⟨rfl, h⟩
theorem RO.comer {c n m : Nat} {K V : Nat → Int64} {t : Int64} {fa fb : Nat → Int32} {fv : Nat → Int64} {k : Int32} {sc : Nat} {r1 r2 : Int64} (h : RO c (n, K, V) t (rl m fa fb fv)) (hn : n < 2 ^ 31)
    (h1 : (∃ j, j < n ∧ k = nI j ∧ ((sc = 0 ∧ r1 = (fsK (V j)).toInt64) ∨ (sc ≠ 0 ∧ r1 = (snK (V j)).toInt64))) ∨ (¬ (¬ k < 0 ∧ ¬ nI n ≤ k) ∧ r1 = NO))
    (h2 : (∃ j, j < m ∧ k = nI j ∧ ((sc = 0 ∧ r2 = (fa j).toInt64) ∨ (sc ≠ 0 ∧ r2 = (fb j).toInt64))) ∨ (¬ (¬ k < 0 ∧ ¬ nI m ≤ k) ∧ r2 = NO)) : r1 = r2 := by
  have hm : m = n := by have := h.len; rw [rl_len] at this; exact this
  subst hm
  rcases h1 with ⟨j, hj, rfl, h1⟩ | ⟨ho, rfl⟩ <;> rcases h2 with ⟨i, hi, hk, h2⟩ | ⟨hp, rfl⟩
  · have e : j = i := (nI_eq (by omega) (by omega)).mp hk
    subst e
    have q : V j = pk (fa j) (fb j) := (h.at (rl_get hj)).2
    rw [q, fsK_pk, snK_pk] at h1
    rcases h1 with ⟨z, rfl⟩ | ⟨z, rfl⟩ <;> rcases h2 with ⟨y, rfl⟩ | ⟨y, rfl⟩
    · rfl
    · exact absurd z y
    · exact absurd y z
    · rfl
  · exact absurd (j_in hj hn) hp
  · subst hk; exact absurd (j_in hi hn) ho
  · rfl
theorem RO.retain {c n nc : Nat} {K V Kc Vc : Nat → Int64} {t : Int64} {l lc : List RT} {d : Nat} (h : RO c (n, K, V) t l) (hc : RC d (nc, Kc, Vc) lc) : RO c (cmpF (fun _ v => pB (∃ j, j < nc ∧ Kc j = v)) K V n) t (l.filter (fun e => pB (∃ e', e' ∈ lc ∧ e'.1 = e.1 ∧ e'.2.1 = e.2.1))) := by
  have hiff : ∀ e : RT, (∃ j, j < nc ∧ Kc j = pkE e) ↔ ∃ e', e' ∈ lc ∧ e'.1 = e.1 ∧ e'.2.1 = e.2.1 := by
    intro e
    constructor
    · rintro ⟨j, hj, q⟩
      obtain ⟨e', he', q1, -⟩ := hc.toM hj
      exact ⟨e', he', pk_inj (q1.symm.trans q)⟩
    · rintro ⟨e', he', q1, q2⟩
      obtain ⟨j, hj, q3, -⟩ := hc.toX he'
      exact ⟨j, hj, by rw [q3, q1, q2]; rfl⟩
  refine ⟨Sst_cmp h.1, Nat.le_trans (cmpF_le _ _ _ _) h.2.1, ?_, h.2.2.2.1, ?_, ?_⟩
  · intro i hi
    have hm : ((cmpF (fun _ v => pB (∃ j, j < nc ∧ Kc j = v)) K V n).2.1 i, (cmpF (fun _ v => pB (∃ j, j < nc ∧ Kc j = v)) K V n).2.2 i) ∈ xl (n, K, V) := by
      have h1 := xl_mem.mpr ⟨i, hi, rfl⟩
      rw [xl_cmp] at h1
      exact (List.mem_filter.mp h1).1
    obtain ⟨j, hj, q⟩ := xl_mem.mp hm
    have q1 := (Prod.mk.inj q).1
    rw [q1]
    exact h.2.2.1 j hj
  · rw [xl_cmp]
    have e1 : ((xl (n, K, V)).filter (fun q => pB (∃ j, j < nc ∧ Kc j = q.2))).map (·.2) = ((xl (n, K, V)).map (·.2)).filter (fun v => pB (∃ j, j < nc ∧ Kc j = v)) := by
      rw [List.filter_map]; rfl
    rw [e1]
    have e := h.2.2.2.2.1
    rw [e, List.filter_map]
    exact congrArg _ (List.filter_congr (fun e _ => pB_congr (hiff e)))
  · exact h.2.2.2.2.2.sublist (List.filter_sublist.map _)
