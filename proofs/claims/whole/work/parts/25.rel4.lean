/-! marked points -/
def kys (u : SS) : List Int64 := (xl u).map (·.1)
theorem kys_mem {u : SS} {q : Int64} : q ∈ kys u ↔ ∃ i, i < u.1 ∧ u.2.1 i = q := by
  unfold kys
  rw [List.mem_map]
  constructor
  · rintro ⟨p, hp, rfl⟩
    obtain ⟨j, hj, rfl⟩ := xl_mem.mp hp
    exact ⟨j, hj, rfl⟩
  · rintro ⟨i, hi, rfl⟩
    exact ⟨_, xl_mem.mpr ⟨i, hi, rfl⟩, rfl⟩
def RP (c : Nat) (u : SS) (l : List RT) : Prop := Sst u.1 u.2.1 ∧ u.1 ≤ 480 + c ∧ (kys u).Perm (l.map pkE)
theorem RP.len {c : Nat} {u : SS} {l : List RT} (h : RP c u l) : l.length = u.1 := by
  have := h.2.2.length_eq
  unfold kys at this
  rw [List.length_map, xl_len, List.length_map] at this
  exact this.symm
theorem RP.mono {c d : Nat} {u : SS} {l : List RT} (h : RP c u l) (hd : c ≤ d) : RP d u l := ⟨h.1, Nat.le_trans h.2.1 (by omega), h.2.2⟩
theorem RP.mem {c n : Nat} {K V : Nat → Int64} {l : List RT} (h : RP c (n, K, V) l) {a b : Int32} : (∃ i, i < n ∧ K i = pk a b) ↔ ∃ e, e ∈ l ∧ e.1 = a ∧ e.2.1 = b := by
  constructor
  · intro q
    have h1 : pk a b ∈ l.map pkE := h.2.2.mem_iff.mp (kys_mem.mpr q)
    obtain ⟨e, he, q2⟩ := List.mem_map.mp h1
    exact ⟨e, he, pk_inj q2⟩
  · rintro ⟨e, he, ha, hb⟩
    have h1 : pkE e ∈ kys (n, K, V) := h.2.2.mem_iff.mpr (List.mem_map_of_mem he)
    have e1 : pkE e = pk a b := by show pk e.1 e.2.1 = _; rw [ha, hb]
    rw [e1] at h1
    exact kys_mem.mp h1
theorem RP.mark {c n : Nat} {K V : Nat → Int64} {l l' : List RT} {a b : Int32} {u : SS} (h : RP c (n, K, V) l)
    (h1 : (∃ j, j < n ∧ K j = pk a b ∧ u = rmS n K V j) ∨ ((∀ j, j < n → K j ≠ pk a b) ∧ ∃ r0, StR n K V (pk a b) 0 r0 u))
    (h2 : (∃ (j : Nat) (e : RT), l[j]? = some e ∧ e.1 = a ∧ e.2.1 = b ∧ l' = l.eraseIdx j) ∨ ((∀ e, e ∈ l → ¬ (e.1 = a ∧ e.2.1 = b)) ∧ l' = l ++ [(a, b, 0)])) : RP (c + 1) u l' := by
  have hc : n ≤ 480 + c := h.2.1
  rcases h1 with ⟨j, hj, hk, rfl⟩ | ⟨hn, r0, hst⟩ <;> rcases h2 with ⟨i, e, he, ha, hb, rfl⟩ | ⟨hm, rfl⟩
  · refine ⟨rmS_st h.1 hj, (show n - 1 ≤ 480 + (c + 1) by omega), ?_⟩
    have e1 : kys (rmS n K V j) = (kys (n, K, V)).eraseIdx j := by
      unfold kys
      rw [xl_era hj, List.eraseIdx_eq_take_drop_succ, List.eraseIdx_eq_take_drop_succ, List.map_append, List.map_take, List.map_drop]
    rw [e1]
    refine rel_era h.2.2 (x := K j) ?_ he ?_
    · unfold kys
      rw [List.getElem?_map, xl_get hj]; rfl
    · show K j = pk e.1 e.2.1
      rw [hk, ha, hb]
  · obtain ⟨e, he, ha, hb⟩ := h.mem.mp ⟨j, hj, hk⟩
    exact (hm e he ⟨ha, hb⟩).elim
  · obtain ⟨j, hj, hk⟩ := h.mem.mpr ⟨e, List.mem_of_getElem? he, ha, hb⟩
    exact (hn j hj hk).elim
  · rcases hst with ⟨i, -, hi, hk, -⟩ | ⟨i, hb, hk, -, rfl⟩
    · exact (hn i hi hk).elim
    · refine ⟨h.1.ins hb hk, (show n + 1 ≤ 480 + (c + 1) by omega), ?_⟩
      have e1 : (kys (n + 1, inS K n i (pk a b), inS V n i 0)).Perm (pk a b :: kys (n, K, V)) := (xl_insP (K := K) (V := V) (pk a b) 0 hb.1).map (fun q : Int64 × Int64 => q.1)
      exact rel_app h.2.2 e1 rfl
theorem RP.nb {c n : Nat} {K V : Nat → Int64} {l : List RT} (h : RP c (n, K, V) l) (a b : Int32) : (fun i j => pB (∃ q, q < n ∧ K q = pk (a + off i) (b + off j))) = mP l a b := by
  funext i j
  exact pB_congr h.mem
def bN (b : Bool) : Nat := bif b then 1 else 0
theorem arK_1 {P : Nat → Nat → Bool} {i j : Nat} (hj : j < 3) (hm : i ≠ 1 ∨ j ≠ 1) : arK P (3 * i + (j + 1)) = arK P (3 * i + j) + bN (P i j) := by
  cases h : P i j with
  | true => rw [arK_yes hj hm h]; rfl
  | false => rw [arK_no hj h]; rfl
theorem arK_9 (P : Nat → Nat → Bool) : arK P 9 = bN (P 0 0) + bN (P 0 1) + bN (P 0 2) + bN (P 1 0) + bN (P 1 2) + bN (P 2 0) + bN (P 2 1) + bN (P 2 2) := by
  have e1 := arK_1 (P := P) (i := 0) (j := 0) (by decide) (Or.inl (by decide))
  have e2 := arK_1 (P := P) (i := 0) (j := 1) (by decide) (Or.inl (by decide))
  have e3 := arK_1 (P := P) (i := 0) (j := 2) (by decide) (Or.inl (by decide))
  have e4 := arK_1 (P := P) (i := 1) (j := 0) (by decide) (Or.inr (by decide))
  have e5 := arK_mid (P := P) (i := 1) (j := 1) rfl rfl
  have e6 := arK_1 (P := P) (i := 1) (j := 2) (by decide) (Or.inr (by decide))
  have e7 := arK_1 (P := P) (i := 2) (j := 0) (by decide) (Or.inl (by decide))
  have e8 := arK_1 (P := P) (i := 2) (j := 1) (by decide) (Or.inl (by decide))
  have e9 := arK_1 (P := P) (i := 2) (j := 2) (by decide) (Or.inl (by decide))
  have e0 : arK P 0 = 0 := rfl
  simp only [Nat.reduceMul, Nat.reduceAdd] at e1 e2 e3 e4 e5 e6 e7 e8 e9
  omega
noncomputable def eqN (x y : Int64) : Nat := bN (pB (x = y))
theorem cnt_one (x q : Int64) : List.count q [x] = eqN x q := by
  unfold eqN bN
  by_cases h : x = q
  · rw [pB_t h, h]; simp
  · rw [pB_f h]
    exact List.count_eq_zero.mpr (by simp; exact fun z => h z.symm)
theorem eig_1 {x y : Int32} {q : Int64} {i j : Nat} (hj : j < 3) (hm : i ≠ 1 ∨ j ≠ 1) : (eig x y (3 * i + (j + 1))).count q = (eig x y (3 * i + j)).count q + eqN (pk (x + off i) (y + off j)) q := by
  rw [eig_put hj hm, List.count_append, cnt_one]
theorem eig_9 (x y : Int32) (q : Int64) : (eig x y 9).count q = eqN (pk (x + off 0) (y + off 0)) q + eqN (pk (x + off 0) (y + off 1)) q + eqN (pk (x + off 0) (y + off 2)) q + eqN (pk (x + off 1) (y + off 0)) q + eqN (pk (x + off 1) (y + off 2)) q + eqN (pk (x + off 2) (y + off 0)) q + eqN (pk (x + off 2) (y + off 1)) q + eqN (pk (x + off 2) (y + off 2)) q := by
  have e1 := eig_1 (x := x) (y := y) (q := q) (i := 0) (j := 0) (by decide) (Or.inl (by decide))
  have e2 := eig_1 (x := x) (y := y) (q := q) (i := 0) (j := 1) (by decide) (Or.inl (by decide))
  have e3 := eig_1 (x := x) (y := y) (q := q) (i := 0) (j := 2) (by decide) (Or.inl (by decide))
  have e4 := eig_1 (x := x) (y := y) (q := q) (i := 1) (j := 0) (by decide) (Or.inr (by decide))
  have e5 := congrArg (List.count q) (eig_mid (x := x) (y := y) (i := 1) (j := 1) rfl rfl)
  have e6 := eig_1 (x := x) (y := y) (q := q) (i := 1) (j := 2) (by decide) (Or.inr (by decide))
  have e7 := eig_1 (x := x) (y := y) (q := q) (i := 2) (j := 0) (by decide) (Or.inl (by decide))
  have e8 := eig_1 (x := x) (y := y) (q := q) (i := 2) (j := 1) (by decide) (Or.inl (by decide))
  have e9 := eig_1 (x := x) (y := y) (q := q) (i := 2) (j := 2) (by decide) (Or.inl (by decide))
  have e0 : (eig x y 0).count q = 0 := rfl
  simp only [Nat.reduceMul, Nat.reduceAdd] at e1 e2 e3 e4 e5 e6 e7 e8 e9
  omega
/-- how many of the points have q at the offset (i, j) -/
noncomputable def hit (K : Nat → Int64) (q : Int64) (i j : Nat) : Nat → Nat
  | 0 => 0
  | n + 1 => hit K q i j n + eqN (pk (fsK (K n) + off i) (snK (K n) + off j)) q
theorem allE_c (K : Nat → Int64) (q : Int64) : ∀ n, (allE K n).count q = hit K q 0 0 n + hit K q 0 1 n + hit K q 0 2 n + hit K q 1 0 n + hit K q 1 2 n + hit K q 2 0 n + hit K q 2 1 n + hit K q 2 2 n
  | 0 => rfl
  | n + 1 => by
    have ih := allE_c K q n
    show (allE K n ++ eig (fsK (K n)) (snK (K n)) 9).count q = _
    rw [List.count_append, eig_9, ih]
    simp only [hit]
    omega
theorem off_inv {i : Nat} (h : i ≤ 2) : off i + off (2 - i) = 0 := by
  match i, h with
  | 0, _ => decide
  | 1, _ => decide
  | 2, _ => decide
theorem off_mv {i : Nat} (h : i ≤ 2) {x z : Int32} : z + off i = x ↔ z = x + off (2 - i) := by
  have e1 := off_inv h
  have e2 : off (2 - i) + off i = 0 := by rw [Int32.add_comm]; exact e1
  constructor
  · rintro rfl
    rw [Int32.add_assoc, e1, Int32.add_zero]
  · rintro rfl
    rw [Int32.add_assoc, e2, Int32.add_zero]
theorem hit_b {K : Nat → Int64} {x y : Int32} {i j : Nat} (hi : i ≤ 2) (hj : j ≤ 2) : ∀ {n : Nat}, Sst n K → hit K (pk x y) i j n = bN (pB (∃ t, t < n ∧ K t = pk (x + off (2 - i)) (y + off (2 - j))))
  | 0, _ => by
    rw [pB_f (fun q => q.elim fun t h => absurd h.1 (Nat.not_lt_zero t))]; rfl
  | n + 1, hs => by
    have ih := hit_b (x := x) (y := y) hi hj (n := n) (fun a b h1 h2 => hs a b h1 (by omega))
    show hit K (pk x y) i j n + eqN (pk (fsK (K n) + off i) (snK (K n) + off j)) (pk x y) = _
    have hiff : pk (fsK (K n) + off i) (snK (K n) + off j) = pk x y ↔ K n = pk (x + off (2 - i)) (y + off (2 - j)) := by
      constructor
      · intro q
        obtain ⟨q1, q2⟩ := pk_inj q
        rw [← pk_eta (K n), (off_mv hi).mp q1, (off_mv hj).mp q2]
      · intro q
        rw [q, fsK_pk, snK_pk, (off_mv hi).mpr rfl, (off_mv hj).mpr rfl]
    rw [ih]
    unfold eqN
    rw [pB_congr hiff]
    by_cases z : K n = pk (x + off (2 - i)) (y + off (2 - j))
    · have hno : ¬ ∃ t, t < n ∧ K t = pk (x + off (2 - i)) (y + off (2 - j)) := by
        rintro ⟨t, ht, q⟩
        exact absurd (hs t n ht (Nat.lt_succ_self n)) (by rw [q, z]; exact Int64.lt_irrefl)
      rw [pB_t z, pB_f hno, pB_t ⟨n, Nat.lt_succ_self n, z⟩]; rfl
    · have hiff2 : (∃ t, t < n + 1 ∧ K t = pk (x + off (2 - i)) (y + off (2 - j))) ↔ ∃ t, t < n ∧ K t = pk (x + off (2 - i)) (y + off (2 - j)) := by
        constructor
        · rintro ⟨t, ht, q⟩
          rcases Nat.lt_succ_iff_lt_or_eq.mp ht with y1 | y1
          · exact ⟨t, y1, q⟩
          · subst y1; exact absurd q z
        · rintro ⟨t, ht, q⟩; exact ⟨t, Nat.lt_succ_of_lt ht, q⟩
      rw [pB_f z, pB_congr hiff2]; rfl
theorem cnt_ar {c n : Nat} {K V : Nat → Int64} {l : List RT} (h : RP c (n, K, V) l) (x y : Int32) : (allE K n).count (pk x y) = arK (mP l x y) 9 := by
  have hs : Sst n K := h.1
  rw [allE_c, ← h.nb x y, arK_9, hit_b (by decide) (by decide) hs, hit_b (by decide) (by decide) hs, hit_b (by decide) (by decide) hs, hit_b (by decide) (by decide) hs, hit_b (by decide) (by decide) hs, hit_b (by decide) (by decide) hs, hit_b (by decide) (by decide) hs, hit_b (by decide) (by decide) hs]
  simp only [Nat.reduceSub, Nat.sub_zero, Nat.sub_self]
  omega
/-- two lists without doubles and with the same in them -/
theorem perm_nd {a b : List Int64} (ha : a.Nodup) (hb : b.Nodup) (h : ∀ q, q ∈ a ↔ q ∈ b) : a.Perm b := by
  rw [List.perm_iff_count]
  intro q
  rw [List.Nodup.count ha, List.Nodup.count hb]
  by_cases z : q ∈ a
  · rw [if_pos z, if_pos ((h q).mp z)]
  · rw [if_neg z, if_neg (fun y => z ((h q).mpr y))]
theorem kys_nd {u : SS} (h : Sst u.1 u.2.1) : (kys u).Nodup := by
  unfold kys
  rw [List.Nodup, List.pairwise_map]
  exact (Sst_iff (V := u.2.2).mp h).imp (fun hpq e => absurd hpq (by rw [e]; exact Int64.lt_irrefl))
theorem thn_mem {l : List RT} {fa fb : Nat → Int32} {x y : Int32} : ∀ t, (∃ e, e ∈ thn l fa fb t ∧ e.1 = x ∧ e.2.1 = y) ↔ ∃ s, s < t ∧ cX fa s = x ∧ cY fb s = y ∧ okS l x y
  | 0 => ⟨fun q => q.elim fun e h => absurd h.1 List.not_mem_nil, fun q => q.elim fun s h => absurd h.1 (Nat.not_lt_zero s)⟩
  | t + 1 => by
    have ih := thn_mem (l := l) (fa := fa) (fb := fb) (x := x) (y := y) t
    by_cases q : okS l (cX fa t) (cY fb t) ∧ ¬ ∃ e, e ∈ thn l fa fb t ∧ e.1 = cX fa t ∧ e.2.1 = cY fb t
    · rw [thn_yes q]
      constructor
      · rintro ⟨e, he, h1, h2⟩
        rcases List.mem_append.mp he with z | z
        · obtain ⟨s, hs, w⟩ := ih.mp ⟨e, z, h1, h2⟩
          exact ⟨s, Nat.lt_succ_of_lt hs, w⟩
        · rw [List.mem_singleton.mp z] at h1 h2
          dsimp only at h1 h2
          exact ⟨t, Nat.lt_succ_self t, h1, h2, by rw [← h1, ← h2]; exact q.1⟩
      · rintro ⟨s, hs, h1, h2, h3⟩
        rcases Nat.lt_succ_iff_lt_or_eq.mp hs with z | z
        · obtain ⟨e, he, w⟩ := ih.mpr ⟨s, z, h1, h2, h3⟩
          exact ⟨e, List.mem_append_left _ he, w⟩
        · subst z
          exact ⟨_, List.mem_append_right _ (List.mem_singleton.mpr rfl), h1, h2⟩
    · rw [thn_no q]
      constructor
      · intro z
        obtain ⟨s, hs, w⟩ := ih.mp z
        exact ⟨s, Nat.lt_succ_of_lt hs, w⟩
      · rintro ⟨s, hs, h1, h2, h3⟩
        rcases Nat.lt_succ_iff_lt_or_eq.mp hs with z | z
        · exact ih.mpr ⟨s, z, h1, h2, h3⟩
        · subst z
          have h4 := Classical.not_not.mp (not_and.mp q (by rw [h1, h2]; exact h3))
          obtain ⟨e, he, w1, w2⟩ := h4
          exact ⟨e, he, w1.trans h1, w2.trans h2⟩
theorem thn_nd (l : List RT) (fa fb : Nat → Int32) : ∀ t, ((thn l fa fb t).map pkE).Nodup
  | 0 => by simp [thn]
  | t + 1 => by
    have ih := thn_nd l fa fb t
    by_cases q : okS l (cX fa t) (cY fb t) ∧ ¬ ∃ e, e ∈ thn l fa fb t ∧ e.1 = cX fa t ∧ e.2.1 = cY fb t
    · rw [thn_yes q, List.map_append]
      refine List.nodup_append.mpr ⟨ih, by simp, ?_⟩
      intro x hx y hy z
      obtain ⟨e, he, rfl⟩ := List.mem_map.mp hx
      have hy' : y = pk (cX fa t) (cY fb t) := by simpa [pkE] using hy
      rw [hy'] at z
      exact q.2 ⟨e, he, pk_inj z⟩
    · rw [thn_no q]; exact ih
theorem ar_pos {P : Nat → Nat → Bool} (h : 0 < arK P 9) : ∃ i j, i ≤ 2 ∧ j ≤ 2 ∧ P i j = true := by
  refine Classical.byContradiction fun hn => ?_
  have hz : ∀ i j, i ≤ 2 → j ≤ 2 → bN (P i j) = 0 := by
    intro i j hi hj
    cases q : P i j with
    | true => exact (hn ⟨i, j, hi, hj, q⟩).elim
    | false => rfl
  rw [arK_9, hz 0 0 (by decide) (by decide), hz 0 1 (by decide) (by decide), hz 0 2 (by decide) (by decide), hz 1 0 (by decide) (by decide), hz 1 2 (by decide) (by decide), hz 2 0 (by decide) (by decide), hz 2 1 (by decide) (by decide), hz 2 2 (by decide) (by decide)] at h
  exact absurd h (by decide)
theorem RP.step {c np n1 m : Nat} {Kp Vp K1 V1 : Nat → Int64} {fa fb : Nat → Int32} {fv : Nat → Int64} (h : RP c (np, Kp, Vp) (rl m fa fb fv)) (h60 : np ≤ 60) (hT : TAL (n1, K1, V1) (allE Kp np)) :
    RP (c + 1) (cmpF (fun k v => pB (v = 3 ∨ (v = 2 ∧ ∃ j, j < np ∧ Kp j = k))) K1 V1 n1) (thn (rl m fa fb fv) fa fb (9 * m)) := by
  have hal := allE_le Kp np
  have hS1 : Sst n1 K1 := hT.1
  have hst := Sst_cmp (P := fun k v => pB (v = 3 ∨ (v = 2 ∧ ∃ j, j < np ∧ Kp j = k))) (V := V1) hS1
  have hn1 : n1 ≤ (allE Kp np).length := hT.2.2.2
  have hcl := cmpF_le (fun k v => pB (v = 3 ∨ (v = 2 ∧ ∃ j, j < np ∧ Kp j = k))) K1 V1 n1
  refine ⟨hst, by omega, ?_⟩
  refine perm_nd (kys_nd hst) (thn_nd _ fa fb _) (fun q => ?_)
  have hlq : ∀ x : Int64, (allE Kp np).count x ≤ 480 := fun x => Nat.le_trans List.count_le_length (by omega)
  -- the class's side
  have hX : q ∈ kys (cmpF (fun k v => pB (v = 3 ∨ (v = 2 ∧ ∃ j, j < np ∧ Kp j = k))) K1 V1 n1) ↔ (allE Kp np).count q = 3 ∨ ((allE Kp np).count q = 2 ∧ ∃ j, j < np ∧ Kp j = q) := by
    unfold kys
    rw [xl_cmp, List.mem_map]
    have l3 : (3 : Int64) = lN 3 := rfl
    have l2 : (2 : Int64) = lN 2 := rfl
    constructor
    · rintro ⟨p, hp, rfl⟩
      obtain ⟨h1, h2⟩ := List.mem_filter.mp hp
      obtain ⟨i, hi, rfl⟩ := xl_mem.mp h1
      have h3 := pB_iff.mp h2
      have h4 := (hT.2.1 i hi).2
      dsimp only at h3 h4 ⊢
      rw [h4, l3, l2, lN_eq (Nat.lt_of_le_of_lt (hlq _) (by decide)) (by decide), lN_eq (Nat.lt_of_le_of_lt (hlq _) (by decide)) (by decide)] at h3
      exact h3
    · intro h3
      have hq : q ∈ allE Kp np := List.count_pos_iff.mp (by omega)
      obtain ⟨i, hi, rfl⟩ := hT.2.2.1 q hq
      refine ⟨(K1 i, V1 i), List.mem_filter.mpr ⟨xl_mem.mpr ⟨i, hi, rfl⟩, pB_iff.mpr ?_⟩, rfl⟩
      have h4 := (hT.2.1 i hi).2
      dsimp only at h3 h4 ⊢
      rw [h4, l3, l2, lN_eq (Nat.lt_of_le_of_lt (hlq _) (by decide)) (by decide), lN_eq (Nat.lt_of_le_of_lt (hlq _) (by decide)) (by decide)]
      exact h3
  have hM : q ∈ (thn (rl m fa fb fv) fa fb (9 * m)).map pkE ↔ okS (rl m fa fb fv) (fsK q) (snK q) := by
    rw [List.mem_map]
    constructor
    · rintro ⟨e, he, rfl⟩
      obtain ⟨s, -, -, -, h4⟩ := (thn_mem (9 * m)).mp ⟨e, he, rfl, rfl⟩
      show okS _ (fsK (pk e.1 e.2.1)) (snK (pk e.1 e.2.1))
      rw [fsK_pk, snK_pk]; exact h4
    · intro hok
      have hpos : 0 < arK (mP (rl m fa fb fv) (fsK q) (snK q)) 9 := by
        rcases hok with z | ⟨z, -⟩ <;> omega
      obtain ⟨i, j, hi, hj, hp⟩ := ar_pos hpos
      obtain ⟨e, he, e1, e2⟩ := pB_iff.mp hp
      obtain ⟨k, hk, rfl⟩ := rl_mem.mp he
      dsimp only at e1 e2
      have hmem : ∃ s, s < 9 * m ∧ cX fa s = fsK q ∧ cY fb s = snK q ∧ okS (rl m fa fb fv) (fsK q) (snK q) := by
        refine ⟨9 * k + 3 * (2 - i) + (2 - j), by omega, ?_, ?_, hok⟩
        · rw [cX_eq (by omega) (by omega)]
          exact ((off_mv hi).mp e1.symm).symm
        · rw [cY_eq (by omega) (by omega)]
          exact ((off_mv hj).mp e2.symm).symm
      obtain ⟨e', he', w1, w2⟩ := (thn_mem (9 * m)).mpr hmem
      exact ⟨e', he', by show pk e'.1 e'.2.1 = q; rw [w1, w2, pk_eta]⟩
  rw [hX, hM]
  unfold okS
  have hc := cnt_ar h (fsK q) (snK q)
  rw [pk_eta] at hc
  have hmm := h.mem (a := fsK q) (b := snK q)
  rw [pk_eta] at hmm
  rw [hc, hmm]
