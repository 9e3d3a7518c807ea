/-! rising and the table -/
theorem RC.gX {c n m : Nat} {K V : Nat → Int64} {fa fb : Nat → Int32} {fv : Nat → Int64} (h : RC c (n, K, V) (rl m fa fb fv)) {j : Nat} (hj : j < m) : ∃ i, i < n ∧ K i = pk (fa j) (fb j) ∧ V i = fv j := by
  have hm : (fa j, fb j, fv j) ∈ rl m fa fb fv := rl_mem.mpr ⟨j, hj, rfl⟩
  obtain ⟨i, h1, h2, h3⟩ := h.toX hm
  dsimp only at h2 h3
  exact ⟨i, h1, h2, h3⟩
theorem RC.gM {c n m : Nat} {K V : Nat → Int64} {fa fb : Nat → Int32} {fv : Nat → Int64} (h : RC c (n, K, V) (rl m fa fb fv)) {i : Nat} (hi : i < n) : ∃ j, j < m ∧ K i = pk (fa j) (fb j) ∧ V i = fv j := by
  obtain ⟨e, he, q1, q2⟩ := h.toM hi
  obtain ⟨j, hj, rfl⟩ := rl_mem.mp he
  exact ⟨j, hj, q1, q2⟩
theorem nv_pk (a b : Int32) : nv (pk a b) = a.toInt64 * 2147483648 + b.toInt64 := by
  unfold nv
  rw [fsK_pk, snK_pk]
/-- where the border lies, those that may be told are on one side -/
theorem ne_side {n : Nat} {K : Nat → Int64} {key : Int64} {dn sm b : Nat} (hdn : dn ≤ 1) (hsm : sm ≤ 1) (hb : (dn = sm ∧ BU n K key b) ∨ (dn ≠ sm ∧ BL n K key b)) : b ≤ n ∧ ∀ i, i < n → (okN key dn sm 0 (K i) ↔ (dn ≠ 0 ∧ i < b) ∨ (dn = 0 ∧ b ≤ i)) := by
  rcases hb with ⟨hd, h1, h2, h3⟩ | ⟨hd, h1, h2, h3⟩
  · refine ⟨h1, fun i hi => ?_⟩
    rcases Nat.lt_or_ge i b with q | q
    · have := h2 i q
      constructor
      · rintro (z | ⟨z, y⟩ | ⟨z, y⟩ | ⟨z, y⟩)
        · exact absurd rfl z
        · exact Or.inl ⟨by omega, q⟩
        · exact Or.inl ⟨z, q⟩
        · exact absurd y (Int64.not_lt.mpr this)
      · rintro (⟨z, -⟩ | ⟨z, y⟩)
        · rcases Int64.lt_or_eq_of_le this with x | x
          · exact Or.inr (Or.inr (Or.inl ⟨z, x⟩))
          · exact Or.inr (Or.inl ⟨x, by omega⟩)
        · omega
    · have := h3 i q hi
      constructor
      · rintro (z | ⟨z, y⟩ | ⟨z, y⟩ | ⟨z, y⟩)
        · exact absurd rfl z
        · exact absurd this (by rw [z]; exact Int64.lt_irrefl)
        · exact absurd y (Int64.lt_asymm this)
        · exact Or.inr ⟨z, q⟩
      · rintro (⟨z, y⟩ | ⟨z, -⟩)
        · omega
        · exact Or.inr (Or.inr (Or.inr ⟨z, this⟩))
  · refine ⟨h1, fun i hi => ?_⟩
    rcases Nat.lt_or_ge i b with q | q
    · have := h2 i q
      constructor
      · rintro (z | ⟨z, y⟩ | ⟨z, y⟩ | ⟨z, y⟩)
        · exact absurd rfl z
        · exact absurd this (by rw [z]; exact Int64.lt_irrefl)
        · exact Or.inl ⟨z, q⟩
        · exact absurd y (Int64.lt_asymm this)
      · rintro (⟨z, -⟩ | ⟨z, y⟩)
        · exact Or.inr (Or.inr (Or.inl ⟨z, this⟩))
        · omega
    · have := h3 i q hi
      constructor
      · rintro (z | ⟨z, y⟩ | ⟨z, y⟩ | ⟨z, y⟩)
        · exact absurd rfl z
        · exact Or.inr ⟨by omega, q⟩
        · exact absurd y (Int64.not_lt.mpr this)
        · exact Or.inr ⟨z, q⟩
      · rintro (⟨z, y⟩ | ⟨z, -⟩)
        · omega
        · rcases Int64.lt_or_eq_of_le this with x | x
          · exact Or.inr (Or.inr (Or.inr ⟨z, x⟩))
          · exact Or.inr (Or.inl ⟨x.symm, by omega⟩)
theorem RC.near {c n m : Nat} {K V : Nat → Int64} {fa fb : Nat → Int32} {fv : Nat → Int64} {a b : Int32} {dn sm : Nat} {r1 r2 : Int64} (h : RC c (n, K, V) (rl m fa fb fv)) (hdn : dn ≤ 1) (hsm : sm ≤ 1) (h1 : NeR n K (pk a b) dn sm r1)
    (h2 : (NsI (fun j => pk (fa j) (fb j)) (okN (pk a b) dn sm 0) dn m none ∧ r2 = NO) ∨ ∃ k, NsI (fun j => pk (fa j) (fb j)) (okN (pk a b) dn sm 0) dn m (some k) ∧ r2 = (fa k).toInt64 * 2147483648 + (fb k).toInt64) : r1 = r2 := by
  obtain ⟨p, hp, hr⟩ := h1
  obtain ⟨hpn, hs⟩ := ne_side hdn hsm hp
  have hSt : Srt n K := Sst.srt h.1
  rcases h2 with ⟨hno, rfl⟩ | ⟨k, ⟨hk, hok, hbest⟩, rfl⟩
  · have none : ∀ i, i < n → ¬ okN (pk a b) dn sm 0 (K i) := fun i hi => by
      obtain ⟨j, hj, q, -⟩ := h.gM hi
      rw [q]; exact hno j hj
    rcases hr with ⟨z, ⟨-, rfl⟩ | ⟨y, rfl⟩⟩ | ⟨z, ⟨y, rfl⟩ | ⟨-, rfl⟩⟩
    · rfl
    · exact absurd ((hs (p - 1) (by omega)).mpr (Or.inl ⟨z, by omega⟩)) (none _ (by omega))
    · exact absurd ((hs p y).mpr (Or.inr ⟨z, Nat.le_refl _⟩)) (none _ y)
    · rfl
  · obtain ⟨i, hi, q1, -⟩ := h.gX hk
    have hoki : okN (pk a b) dn sm 0 (K i) := by rw [q1]; exact hok
    have best : ∀ t, t < n → okN (pk a b) dn sm 0 (K t) → bet dn (K i) (K t) := fun t ht hot => by
      obtain ⟨j, hj, q, -⟩ := h.gM ht
      rw [q, q1]
      rw [q] at hot
      exact hbest j hj hot
    have hside := (hs i hi).mp hoki
    have fin : ∀ t, t < n → okN (pk a b) dn sm 0 (K t) → ((dn ≠ 0 → i ≤ t) ∧ (dn = 0 → t ≤ i)) → K t = pk (fa k) (fb k) := by
      intro t ht hot hle
      rw [← q1]
      rcases best t ht hot with ⟨z, y⟩ | ⟨z, y⟩
      · exact Int64.le_antisymm y (hSt i t (hle.1 z) ht)
      · exact Int64.le_antisymm (hSt t i (hle.2 z) hi) y
    rcases hr with ⟨z, ⟨y, -⟩ | ⟨y, rfl⟩⟩ | ⟨z, ⟨y, rfl⟩ | ⟨y, -⟩⟩
    · exfalso; omega
    · rw [fin (p - 1) (by omega) ((hs _ (by omega)).mpr (Or.inl ⟨z, by omega⟩)) ⟨fun _ => by omega, fun x => absurd x z⟩, nv_pk]
    · rw [fin p y ((hs _ y).mpr (Or.inr ⟨z, Nat.le_refl _⟩)) ⟨fun x => absurd z x, fun _ => by omega⟩, nv_pk]
    · exfalso; omega
theorem RC.poll {c n m : Nat} {K V : Nat → Int64} {fa fb : Nat → Int32} {fv : Nat → Int64} {la : Nat} {r1 r2 : Int64} {u : SS} {l' : List RT} {z0 : Int64} (h : RC c (n, K, V) (rl m fa fb fv))
    (h1 : (n = 0 ∧ r1 = NO ∧ u = (n, K, V)) ∨ (0 < n ∧ ∃ j, ((la = 0 ∧ j = 0) ∨ (la ≠ 0 ∧ j = n - 1)) ∧ r1 = V j ∧ u = rmS n K V j))
    (h2 : (NsI (fun j => pk (fa j) (fb j)) (okN z0 la 1 1) la m none ∧ r2 = NO ∧ l' = rl m fa fb fv) ∨ ∃ k, NsI (fun j => pk (fa j) (fb j)) (okN z0 la 1 1) la m (some k) ∧ r2 = fv k ∧ l' = (rl m fa fb fv).eraseIdx k) : r1 = r2 ∧ RC c u l' := by
  have all : ∀ x, okN z0 la 1 1 x := fun x => Or.inl (by decide)
  have hSt : Srt n K := Sst.srt h.1
  have hnm : m = n := by have := h.len; rw [rl_len] at this; exact this
  rcases h1 with ⟨hn0, rfl, rfl⟩ | ⟨hn, j, hj, rfl, rfl⟩ <;> rcases h2 with ⟨hno, rfl, rfl⟩ | ⟨k, ⟨hk, -, hbest⟩, rfl, rfl⟩
  · exact ⟨rfl, h⟩
  · exfalso; omega
  · exact absurd (all _) (hno 0 (by omega))
  · have hjn : j < n := by omega
    obtain ⟨i, hi, q1, q2⟩ := h.gX hk
    have hKj : K j = pk (fa k) (fb k) := by
      obtain ⟨t, ht, q, -⟩ := h.gM hjn
      have hb : bet la (K i) (K j) := by rw [q1, q]; exact hbest t ht (all _)
      rw [← q1]
      rcases hb with ⟨z, y⟩ | ⟨z, y⟩
      · exact Int64.le_antisymm y (hSt i j (by omega) hjn)
      · exact Int64.le_antisymm (hSt j i (by omega) hi) y
    have hij : i = j := h.1.inj hi hjn (by show K i = K j; rw [q1, hKj])
    subst hij
    refine ⟨q2, h.del hjn (rl_get hk) ?_⟩
    show (K i, V i) = (pk (fa k) (fb k), fv k)
    rw [q1, q2]
theorem cntF_congr {P Q : Nat → Bool} : ∀ {n : Nat}, (∀ i, i < n → P i = Q i) → cntF P n = cntF Q n
  | 0, _ => rfl
  | n + 1, h => by
    show (bif P n then cntF P n + 1 else cntF P n) = (bif Q n then cntF Q n + 1 else cntF Q n)
    rw [h n (Nat.lt_succ_self n), cntF_congr (fun i hi => h i (by omega))]
theorem cntF_rl (p : RT → Bool) (fa fb : Nat → Int32) (fv : Nat → Int64) : ∀ n, cntF (fun j => p (fa j, fb j, fv j)) n = (rl n fa fb fv).countP p
  | 0 => rfl
  | n + 1 => by
    rw [rl_succ, List.countP_append, ← cntF_rl p fa fb fv n]
    show (bif p (fa n, fb n, fv n) then _ else _) = _
    cases q : p (fa n, fb n, fv n) <;> simp [q]
theorem cntF_xl (p : Int64 × Int64 → Bool) (K V : Nat → Int64) : ∀ n, cntF (fun j => p (K j, V j)) n = (xl (n, K, V)).countP p
  | 0 => rfl
  | n + 1 => by
    rw [xl_succ, List.countP_append, ← cntF_xl p K V n]
    show (bif p (K n, V n) then _ else _) = _
    cases q : p (K n, V n) <;> simp [q]
theorem cnt_rng {a b : Nat} (hab : a ≤ b) : ∀ n, cntF (fun i => pB (a ≤ i ∧ i < b)) n = (if n ≤ a then 0 else if n ≤ b then n - a else b - a)
  | 0 => by rw [if_pos (Nat.zero_le a)]; rfl
  | n + 1 => by
    have ih := cnt_rng hab n
    by_cases q : a ≤ n ∧ n < b
    · rw [cntF_t (P := fun i => pB (a ≤ i ∧ i < b)) (pB_t q), ih, if_neg (show ¬ n + 1 ≤ a by omega), if_pos (show n + 1 ≤ b by omega)]
      split
      · omega
      · split <;> omega
    · rw [cntF_f (P := fun i => pB (a ≤ i ∧ i < b)) (pB_f q), ih]
      split <;> split <;> try split <;> try split
      all_goals omega
theorem RC.between {c n m : Nat} {K V : Nat → Int64} {fa fb : Nat → Int32} {fv : Nat → Int64} {k1 k2 : Int64} {r1 r2 : Int32} (h : RC c (n, K, V) (rl m fa fb fv))
    (h1 : (k2 < k1 ∧ r1 = (-1)) ∨ (¬ k2 < k1 ∧ ∃ b1 b2, BL n K k1 b1 ∧ BL n K k2 b2 ∧ r1 = nI (b2 - b1)))
    (h2 : (k2 < k1 ∧ r2 = (-1)) ∨ (¬ k2 < k1 ∧ r2 = nI (cntF (fun j => pB (¬ pk (fa j) (fb j) < k1 ∧ pk (fa j) (fb j) < k2)) m))) : r1 = r2 := by
  rcases h1 with ⟨z, rfl⟩ | ⟨z, b1, b2, hb1, hb2, rfl⟩ <;> rcases h2 with ⟨y, rfl⟩ | ⟨y, rfl⟩
  · rfl
  · exact absurd z y
  · exact absurd y z
  · have hle := hb1.mono hb2 (Int64.not_lt.mp z)
    have e1 : cntF (fun j => pB (¬ pk (fa j) (fb j) < k1 ∧ pk (fa j) (fb j) < k2)) m = (rl m fa fb fv).countP (fun e => pB (¬ pk e.1 e.2.1 < k1 ∧ pk e.1 e.2.1 < k2)) := cntF_rl (fun e => pB (¬ pk e.1 e.2.1 < k1 ∧ pk e.1 e.2.1 < k2)) fa fb fv m
    have e2 : cntF (fun j => pB (¬ K j < k1 ∧ K j < k2)) n = (xl (n, K, V)).countP (fun q => pB (¬ q.1 < k1 ∧ q.1 < k2)) := cntF_xl (fun q => pB (¬ q.1 < k1 ∧ q.1 < k2)) K V n
    have e3 := h.2.2.countP_eq (fun q => pB (¬ q.1 < k1 ∧ q.1 < k2))
    rw [List.countP_map] at e3
    have e4 : cntF (fun j => pB (¬ K j < k1 ∧ K j < k2)) n = cntF (fun i => pB (b1 ≤ i ∧ i < b2)) n := cntF_congr (fun i hi => pB_congr ⟨fun q => ⟨Nat.not_lt.mp fun x => q.1 (hb1.2.1 i x), Nat.not_le.mp fun x => absurd q.2 (Int64.not_lt.mpr (hb2.2.2 i x hi))⟩, fun q => ⟨Int64.not_lt.mpr (hb1.2.2 i q.1 hi), hb2.2.1 i q.2⟩⟩)
    have h2n := hb2.1
    have e5 : cntF (fun i => pB (b1 ≤ i ∧ i < b2)) n = b2 - b1 := by
      rw [cnt_rng hle]
      split
      · omega
      · split <;> omega
    rw [e1, show (rl m fa fb fv).countP (fun e => pB (¬ pk e.1 e.2.1 < k1 ∧ pk e.1 e.2.1 < k2)) = (xl (n, K, V)).countP (fun q => pB (¬ q.1 < k1 ∧ q.1 < k2)) from e3.symm, ← e2, e4, e5]
/-- how many different ones -/
noncomputable def dcnt : List Int64 → Nat
  | [] => 0
  | x :: l => bif pB (x ∈ l) then dcnt l else dcnt l + 1
theorem dcnt_perm {a b : List Int64} (h : a.Perm b) : dcnt a = dcnt b := by
  induction h with
  | nil => rfl
  | cons x p ih =>
    show (bif pB (x ∈ _) then dcnt _ else dcnt _ + 1) = (bif pB (x ∈ _) then dcnt _ else dcnt _ + 1)
    rw [ih, pB_congr p.mem_iff]
  | swap x y l =>
    show (bif pB (y ∈ x :: l) then (bif pB (x ∈ l) then dcnt l else dcnt l + 1) else (bif pB (x ∈ l) then dcnt l else dcnt l + 1) + 1) = (bif pB (x ∈ y :: l) then (bif pB (y ∈ l) then dcnt l else dcnt l + 1) else (bif pB (y ∈ l) then dcnt l else dcnt l + 1) + 1)
    by_cases e : x = y
    · subst e; rfl
    · have h1 : pB (y ∈ x :: l) = pB (y ∈ l) := pB_congr ⟨fun q => (List.mem_cons.mp q).resolve_left (fun z => e z.symm), List.mem_cons_of_mem _⟩
      have h2 : pB (x ∈ y :: l) = pB (x ∈ l) := pB_congr ⟨fun q => (List.mem_cons.mp q).resolve_left e, List.mem_cons_of_mem _⟩
      rw [h1, h2]
      cases pB (y ∈ l) <;> cases pB (x ∈ l) <;> rfl
  | trans _ _ i1 i2 => exact i1.trans i2
theorem dcnt_app (l : List Int64) (x : Int64) : dcnt (l ++ [x]) = (bif pB (x ∈ l) then dcnt l else dcnt l + 1) := by
  rw [dcnt_perm (List.perm_append_singleton x l)]; rfl
def rg (g : Nat → Int64) (n : Nat) : List Int64 := (List.range n).map g
theorem rg_succ (g : Nat → Int64) (n : Nat) : rg g (n + 1) = rg g n ++ [g n] := by
  unfold rg
  rw [List.range_succ, List.map_append]; rfl
theorem rg_mem {g : Nat → Int64} {n : Nat} {x : Int64} : x ∈ rg g n ↔ ∃ i, i < n ∧ g i = x := by
  unfold rg
  rw [List.mem_map]
  constructor
  · rintro ⟨i, h1, h2⟩; exact ⟨i, List.mem_range.mp h1, h2⟩
  · rintro ⟨i, h1, h2⟩; exact ⟨i, List.mem_range.mpr h1, h2⟩
theorem grp_d {g : Nat → Int64} : ∀ {n : Nat}, (∀ i j, i ≤ j → j < n → g i ≤ g j) → grp g n = dcnt (rg g n)
  | 0, _ => rfl
  | n + 1, h => by
    rw [rg_succ, dcnt_app, ← grp_d (fun i j h1 h2 => h i j h1 (by omega))]
    show (if n = 0 ∨ g n ≠ g (n - 1) then grp g n + 1 else grp g n) = _
    by_cases q : n = 0 ∨ g n ≠ g (n - 1)
    · rw [if_pos q, pB_f]
      · rfl
      · intro z
        obtain ⟨i, hi, e⟩ := rg_mem.mp z
        rcases q with q | q
        · omega
        · exact q (Int64.le_antisymm (by rw [← e]; exact h i (n - 1) (by omega) (by omega)) (h (n - 1) n (by omega) (by omega)))
    · rw [if_neg q, pB_t]
      · rfl
      · refine rg_mem.mpr ⟨n - 1, by omega, ?_⟩
        exact (Decidable.not_not.mp (fun z => q (Or.inr z))).symm
theorem rwF_d (fa : Nat → Int32) : ∀ n, rwF n fa = dcnt (rg (fun i => (fa i).toInt64) n)
  | 0 => rfl
  | n + 1 => by
    rw [rg_succ, dcnt_app, ← rwF_d fa n]
    show (bif pB (∀ i, i < n → fa i ≠ fa n) then _ else _) = _
    have e : pB ((fa n).toInt64 ∈ rg (fun i => (fa i).toInt64) n) = !pB (∀ i, i < n → fa i ≠ fa n) := by
      by_cases q : ∀ i, i < n → fa i ≠ fa n
      · rw [pB_t q, pB_f]
        · rfl
        · intro z
          obtain ⟨i, hi, e⟩ := rg_mem.mp z
          exact q i hi (Int32.toInt_inj.mp (by rw [← ext64, ← ext64, e]))
      · rw [pB_f q, pB_t]
        · rfl
        · obtain ⟨i, hi⟩ := Classical.not_forall.mp q
          have hi2 := Classical.not_imp.mp hi
          exact rg_mem.mpr ⟨i, hi2.1, by rw [Decidable.not_not.mp hi2.2]⟩
    rw [e]
    cases pB (∀ i, i < n → fa i ≠ fa n) <;> rfl
theorem sh_fs (k : Int64) : k >>> ((nI 32).toInt64 &&& 63) = (fsK k).toInt64 := by
  apply Int64.toInt_inj.mp
  rw [sh32, shr32, ext64, fsK_int]
theorem RC.rows {c n m : Nat} {K V : Nat → Int64} {fa fb : Nat → Int32} {fv : Nat → Int64} (h : RC c (n, K, V) (rl m fa fb fv)) : grp (fun i => K i >>> ((nI 32).toInt64 &&& 63)) n = rwF m fa := by
  have hs : ∀ i j, i ≤ j → j < n → K i >>> ((nI 32).toInt64 &&& 63) ≤ K j >>> ((nI 32).toInt64 &&& 63) := by
    intro i j h1 h2
    have h3 := Sst.srt h.1 i j h1 h2
    rw [Int64.le_iff_toInt_le] at h3 ⊢
    rw [sh32, shr32, shr32]
    have h3' : (K i).toInt ≤ (K j).toInt := h3
    omega
  rw [grp_d hs, rwF_d]
  apply dcnt_perm
  have h1 := h.2.2.map (fun q => (fsK q.1).toInt64)
  have e1 : rg (fun i => K i >>> ((nI 32).toInt64 &&& 63)) n = (xl (n, K, V)).map (fun q => (fsK q.1).toInt64) := by
    unfold rg xl
    rw [List.map_map]
    exact List.map_congr_left (fun i _ => sh_fs (K i))
  have e2 : rg (fun i => (fa i).toInt64) m = ((rl m fa fb fv).map fK).map (fun q => (fsK q.1).toInt64) := by
    unfold rg rl
    rw [List.map_map, List.map_map]
    exact List.map_congr_left (fun i _ => by show _ = (fsK (pk (fa i) (fb i))).toInt64; rw [fsK_pk])
  rw [e1, e2]
  exact h1
theorem RC.end {c n m : Nat} {K V : Nat → Int64} {fa fb : Nat → Int32} {fv : Nat → Int64} {r0 : Int32} {r1 r2 : Int64} (h : RC c (n, K, V) (rl m fa fb fv))
    (h1 : ∃ b, BU n K (pk r0 2147483647) b ∧ ((b = 0 ∧ r1 = NO) ∨ (0 < b ∧ fsK (K (b - 1)) ≠ r0 ∧ r1 = NO) ∨ (0 < b ∧ fsK (K (b - 1)) = r0 ∧ r1 = (snK (K (b - 1))).toInt64)))
    (h2 : ∃ o, EdR m fa fb r0 o ∧ r2 = eV fb o) : r1 = r2 := by
  obtain ⟨b, hb, hr⟩ := h1
  obtain ⟨o, ho, rfl⟩ := h2
  have hSt : Srt n K := Sst.srt h.1
  have hmx : (2147483647 : Int32).toInt = 2147483647 := rfl
  have inb : ∀ i, i < n → fsK (K i) = r0 → i < b := by
    intro i hi q
    refine Nat.not_le.mp fun z => ?_
    have h3 := hb.2.2 i z hi
    rw [Int64.lt_iff_toInt_lt, pk_int, hmx] at h3
    have h4 := fsK_int (K i)
    rw [q] at h4
    omega
  have hb1 := hb.1
  cases o with
  | none =>
    rcases hr with ⟨-, rfl⟩ | ⟨-, -, rfl⟩ | ⟨z, y, -⟩
    · rfl
    · rfl
    · obtain ⟨j, hj, q, -⟩ := h.gM (show b - 1 < n by omega)
      exact absurd (by rw [← y, q, fsK_pk]) (ho j hj)
  | some t =>
    obtain ⟨ht, hta, htb⟩ := ho
    obtain ⟨i, hi, q1, -⟩ := h.gX ht
    have hib := inb i hi (by rw [q1, fsK_pk]; exact hta)
    have hfs : fsK (K (b - 1)) = r0 := by
      have h5 := hSt i (b - 1) (by omega) (by omega)
      have h6 := hb.2.1 (b - 1) (by omega)
      have h7 := fsK_int (K i)
      rw [q1, fsK_pk, hta, pk_int] at h7
      rw [Int64.le_iff_toInt_le, pk_int, hmx] at h6
      rw [Int64.le_iff_toInt_le, q1, pk_int, hta] at h5
      have hfb := i32_rng (fb t)
      apply Int32.toInt_inj.mp
      rw [fsK_int]
      omega
    rcases hr with ⟨z, -⟩ | ⟨-, z, -⟩ | ⟨z, y, rfl⟩
    · omega
    · exact absurd hfs z
    · obtain ⟨j, hj, q2, -⟩ := h.gM (show b - 1 < n by omega)
      rw [q2, fsK_pk] at y
      have hle := htb j hj y
      have h5 := hSt i (b - 1) (by omega) (by omega)
      rw [q1, q2, hta, y] at h5
      have hge : fb t ≤ fb j := by
        rw [Int64.le_iff_toInt_le, pk_int, pk_int] at h5
        rw [Int32.le_iff_toInt_le]
        omega
      rw [q2, snK_pk]
      show (fb j).toInt64 = (fb t).toInt64
      rw [Int32.le_antisymm hle hge]
