/-! lines -/
def keyW (fw : Nat → Int32) (e : RT) : Int64 := lN (pw (wF fw e.1.toNatClampNeg))
def ent (fw : Nat → Int32) (e : RT) : Int64 × Int64 := (keyW fw e, e.2.2)
noncomputable def kf (key : Int64) : Int64 × Int64 → Bool := fun q => pB (q.1 = key)
def RLn (c : Nat) (u : SS) (l : List RT) (wm : Nat) (fw : Nat → Int32) : Prop := Srt u.1 u.2.1 ∧ u.1 ≤ c ∧ (∀ e, e ∈ l → ∃ w, w < wm ∧ e.1 = nI w) ∧ (∀ w, w < wm → WV (wF fw w)) ∧ (∀ w w', w < wm → w' < wm → vW (wF fw w) = vW (wF fw w') → w = w') ∧ wm ≤ c ∧ ∀ key, (xl u).filter (kf key) = (l.map (ent fw)).filter (kf key)
theorem RLn.mono {c d : Nat} {u : SS} {l : List RT} {wm : Nat} {fw : Nat → Int32} (h : RLn c u l wm fw) (hd : c ≤ d) : RLn d u l wm fw := ⟨h.1, Nat.le_trans h.2.1 hd, h.2.2.1, h.2.2.2.1, h.2.2.2.2.1, Nat.le_trans h.2.2.2.2.2.1 hd, h.2.2.2.2.2.2⟩
theorem kf_cnt (x : Int64 × Int64) (L : List (Int64 × Int64)) : L.count x = (L.filter (kf x.1)).count x := by
  rw [List.count_filter]
  exact pB_t rfl
theorem RLn.perm {c : Nat} {u : SS} {l : List RT} {wm : Nat} {fw : Nat → Int32} (h : RLn c u l wm fw) : (xl u).Perm (l.map (ent fw)) := by
  rw [List.perm_iff_count]
  intro x
  rw [kf_cnt x (xl u), kf_cnt x (l.map (ent fw)), h.2.2.2.2.2.2]
theorem RLn.len {c : Nat} {u : SS} {l : List RT} {wm : Nat} {fw : Nat → Int32} (h : RLn c u l wm fw) : l.length = u.1 := by
  have := h.perm.length_eq
  rw [xl_len, List.length_map] at this
  exact this.symm
theorem lN_inj60 {a b : Nat} (ha : a < 1152921504606846976) (hb : b < 1152921504606846976) : lN a = lN b ↔ a = b := pk_lEQ (by omega) (by omega)
theorem lN_lt60 {a b : Nat} (ha : a < 1152921504606846976) (hb : b < 1152921504606846976) : lN a < lN b ↔ a < b := pk_lLT (by omega) (by omega)
theorem RLn.key {c : Nat} {u : SS} {l : List RT} {wm : Nat} {fw : Nat → Int32} (h : RLn c u l wm fw) (hc : c ≤ 1000) {e : RT} (he : e ∈ l) {w : Nat} (hw : w < wm) : keyW fw e = lN (pw (wF fw w)) ↔ e.1 = nI w := by
  obtain ⟨w0, hw0, q⟩ := h.2.2.1 e he
  have hwm := h.2.2.2.2.2.1
  unfold keyW
  rw [q, nI_clamp (by omega), lN_inj60 (pw_bd (h.2.2.2.1 w0 hw0).d) (pw_bd (h.2.2.2.1 w hw).d), ← vp_eq (h.2.2.2.1 w0 hw0).d (h.2.2.2.1 w hw).d, nI_eq (by omega) (by omega)]
  exact ⟨fun z => h.2.2.2.2.1 w0 w hw0 hw z, fun z => by rw [z]⟩
theorem RLn.fil {c : Nat} {u : SS} {l : List RT} {wm : Nat} {fw : Nat → Int32} (h : RLn c u l wm fw) (hc : c ≤ 1000) {w : Nat} (hw : w < wm) : (xl u).filter (kf (lN (pw (wF fw w)))) = (l.filter (fun e => pB (e.1 = nI w))).map (ent fw) := by
  rw [h.2.2.2.2.2.2, List.filter_map]
  exact congrArg _ (List.filter_congr (fun e he => pB_congr (h.key hc he hw)))
theorem nmF_c (n : Nat) (fa fb : Nat → Int32) (fv : Nat → Int64) (w : Nat) : nmF n fa w = (rl n fa fb fv).countP (fun e => pB (e.1 = nI w)) := cntF_rl (fun e => pB (e.1 = nI w)) fa fb fv n
theorem RLn.num {c n : Nat} {u : SS} {fa fb : Nat → Int32} {fv : Nat → Int64} {wm : Nat} {fw : Nat → Int32} (h : RLn c u (rl n fa fb fv) wm fw) (hc : c ≤ 1000) {w : Nat} (hw : w < wm) : nmF n fa w = ((xl u).filter (kf (lN (pw (wF fw w))))).length := by
  rw [h.fil hc hw, List.length_map, nmF_c n fa fb fv, List.countP_eq_length_filter]
theorem take_mem {α : Type} {l : List α} {b : Nat} {q : α} (h : q ∈ l.take b) : ∃ i, i < b ∧ l[i]? = some q := by
  obtain ⟨i, hi⟩ := List.getElem?_of_mem h
  rw [List.getElem?_take] at hi
  by_cases z : i < b
  · rw [if_pos z] at hi; exact ⟨i, z, hi⟩
  · rw [if_neg z] at hi; cases hi
theorem drop_mem {α : Type} {l : List α} {b : Nat} {q : α} (h : q ∈ l.drop b) : ∃ i, b ≤ i ∧ l[i]? = some q := by
  obtain ⟨i, hi⟩ := List.getElem?_of_mem h
  rw [List.getElem?_drop] at hi
  exact ⟨b + i, by omega, hi⟩
theorem xl_at {u : SS} {i : Nat} {q : Int64 × Int64} (h : (xl u)[i]? = some q) : i < u.1 ∧ q = (u.2.1 i, u.2.2 i) := by
  have hi : i < u.1 := by
    have := (List.getElem?_eq_some_iff.mp h).1
    rw [xl_len] at this; exact this
  rw [xl_get hi] at h
  exact ⟨hi, (Option.some.inj h).symm⟩
/-- those with a key stand side by side -/
theorem seg {n b1 b2 : Nat} {K V : Nat → Int64} {key : Int64} (h1 : BL n K key b1) (h2 : BU n K key b2) : (xl (n, K, V)).filter (kf key) = ((xl (n, K, V)).take b2).drop b1 := by
  have h12 := h1.leBU h2
  have e : (xl (n, K, V)).filter (kf key) = ((((xl (n, K, V)).take b2).take b1).filter (kf key) ++ (((xl (n, K, V)).take b2).drop b1).filter (kf key)) ++ ((xl (n, K, V)).drop b2).filter (kf key) := by
    rw [← List.filter_append, List.take_append_drop, ← List.filter_append, List.take_append_drop]
  have f1 : (((xl (n, K, V)).take b2).take b1).filter (kf key) = [] := by
    rw [List.filter_eq_nil_iff]
    intro q hq z
    rw [List.take_take, Nat.min_eq_left h12] at hq
    obtain ⟨i, hi, hg⟩ := take_mem hq
    obtain ⟨hn, rfl⟩ := xl_at hg
    have z1 := pB_iff.mp z
    exact absurd (h1.2.1 i hi) (by rw [show K i = key from z1]; exact Int64.lt_irrefl)
  have f3 : ((xl (n, K, V)).drop b2).filter (kf key) = [] := by
    rw [List.filter_eq_nil_iff]
    intro q hq z
    obtain ⟨i, hi, hg⟩ := drop_mem hq
    obtain ⟨hn, rfl⟩ := xl_at hg
    have z1 := pB_iff.mp z
    exact absurd (h2.2.2 i hi hn) (by rw [show K i = key from z1]; exact Int64.lt_irrefl)
  have f2 : (((xl (n, K, V)).take b2).drop b1).filter (kf key) = ((xl (n, K, V)).take b2).drop b1 := by
    rw [List.filter_eq_self]
    intro q hq
    obtain ⟨i, hi, hg⟩ := drop_mem hq
    rw [List.getElem?_take] at hg
    by_cases z : i < b2
    · rw [if_pos z] at hg
      obtain ⟨hn, rfl⟩ := xl_at hg
      exact pB_t (Int64.le_antisymm (h2.2.1 i z) (h1.2.2 i hi hn))
    · rw [if_neg z] at hg; cases hg
  rw [e, f1, f2, f3]; simp
theorem seg_len {n b1 b2 : Nat} {K V : Nat → Int64} {key : Int64} (h1 : BL n K key b1) (h2 : BU n K key b2) : ((xl (n, K, V)).filter (kf key)).length = b2 - b1 := by
  rw [seg h1 h2, List.length_drop, List.length_take, xl_len, Nat.min_eq_left h2.1]
theorem seg_get {n b1 b2 j : Nat} {K V : Nat → Int64} {key : Int64} (h1 : BL n K key b1) (h2 : BU n K key b2) (hj : j < b2 - b1) : ((xl (n, K, V)).filter (kf key))[j]? = some (K (b1 + j), V (b1 + j)) := by
  have := h2.1
  rw [seg h1 h2, List.getElem?_drop, List.getElem?_take, if_pos (by omega), xl_get (show b1 + j < n by omega)]
/-- no line for this word -/
theorem RLn.nix {c : Nat} {u : SS} {l : List RT} {wm : Nat} {fw f : Nat → Int32} (h : RLn c u l wm fw) (hc : c ≤ 1000) (hf : WV f) (hn : ∀ w, w < wm → vW (wF fw w) ≠ vW f) : (xl u).filter (kf (lN (pw f))) = [] := by
  rw [h.2.2.2.2.2.2, List.filter_eq_nil_iff]
  intro q hq z
  obtain ⟨e, he, rfl⟩ := List.mem_map.mp hq
  obtain ⟨w, hw, e1⟩ := h.2.2.1 e he
  have hwm := h.2.2.2.2.2.1
  have z1 : keyW fw e = lN (pw f) := pB_iff.mp z
  unfold keyW at z1
  rw [e1, nI_clamp (by omega), lN_inj60 (pw_bd (h.2.2.2.1 w hw).d) (pw_bd hf.d), ← vp_eq (h.2.2.2.1 w hw).d hf.d] at z1
  exact hn w hw z1
theorem wF_eq {fw fw' : Nat → Int32} {wm : Nat} (h : ∀ i, i < 12 * wm → fw' i = fw i) {w : Nat} (hw : w < wm) : ∀ k, k < 12 → wF fw' w k = wF fw w k := fun k hk => h _ (by omega)
theorem WV.congr {f g : Nat → Int32} (h : ∀ k, k < 12 → f k = g k) (hg : WV g) : WV f := by
  obtain ⟨m, h1, h2, h3⟩ := hg
  exact ⟨m, h1, fun j hj => by rw [h j (by omega)]; exact h2 j hj, fun j hj hj2 => by rw [h j hj2]; exact h3 j hj hj2⟩
theorem RLn.line {c n b w wm wm' : Nat} {K V : Nat → Int64} {l : List RT} {fw fw' ft : Nat → Int32} {tape z : Int64} {tm : Nat} (h : RLn c (n, K, V) l wm fw) (hc : c ≤ 999) (hT : TR tape tm ft) (hb : BU n K tape b)
    (hw : (w < wm ∧ wm' = wm) ∨ ((∀ w, w < wm → vW (wF fw w) ≠ vW (tS tm ft)) ∧ w = wm ∧ wm' = wm + 1)) (hfw : ∀ i, i < 12 * wm → fw' i = fw i) (hv : vW (wF fw' w) = vW (tS tm ft)) :
    RLn (c + 1) (n + 1, inS K n b tape, inS V n b z) (l ++ [(nI w, 0, z)]) wm' fw' ∧ w < wm' ∧ tape = lN (pw (wF fw' w)) := by
  have hwm := h.2.2.2.2.2.1
  have hww : w < wm' := by omega
  have hkw : ∀ k, k < 12 → wF fw' w k = tS tm ft k := vW_eq.mp hv
  have htw : tape = lN (pw (wF fw' w)) := by rw [hT.2.2, pw_eq hkw]
  have hold : ∀ w0, w0 < wm → vW (wF fw' w0) = vW (wF fw w0) := fun w0 h0 => vW_eq.mpr (wF_eq hfw h0)
  refine ⟨⟨h.1.ins hb, Nat.succ_le_succ h.2.1, ?_, ?_, ?_, by omega, ?_⟩, hww, htw⟩
  · intro e he
    rcases List.mem_append.mp he with q | q
    · obtain ⟨w0, h0, e0⟩ := h.2.2.1 e q
      exact ⟨w0, by omega, e0⟩
    · rw [List.mem_singleton.mp q]; exact ⟨w, hww, rfl⟩
  · intro w0 h0
    rcases Nat.lt_or_ge w0 wm with q | q
    · exact WV.congr (wF_eq hfw q) (h.2.2.2.1 w0 q)
    · have e0 : w0 = w := by omega
      rw [e0]; exact WV.congr hkw hT.wv
  · have key : ∀ w0 w1, w0 < wm' → w1 < wm → vW (wF fw' w0) = vW (wF fw' w1) → w0 = w1 := by
      intro w0 w1 h0 h1 q
      rcases Nat.lt_or_ge w0 wm with y | y
      · rw [hold w0 y, hold w1 h1] at q
        exact h.2.2.2.2.1 w0 w1 y h1 q
      · have e0 : w0 = w := by omega
        rw [e0, hv, hold w1 h1] at q
        rcases hw with ⟨x, -⟩ | ⟨x, -, -⟩
        · omega
        · exact absurd q.symm (x w1 h1)
    intro w0 w1 h0 h1 q
    rcases Nat.lt_or_ge w1 wm with y | y
    · exact key w0 w1 h0 y q
    · rcases Nat.lt_or_ge w0 wm with x | x
      · exact (key w1 w0 h1 x q.symm).symm
      · omega
  · intro k
    have e1 : (l ++ [(nI w, 0, z)]).map (ent fw') = l.map (ent fw) ++ [(tape, z)] := by
      rw [List.map_append]
      refine congr (congrArg _ (List.map_congr_left fun e he => ?_)) ?_
      · obtain ⟨w0, h0, e0⟩ := h.2.2.1 e he
        unfold ent keyW
        rw [e0, nI_clamp (by omega), pw_eq (wF_eq hfw h0)]
      · show [(lN (pw (wF fw' (nI w).toNatClampNeg)), z)] = _
        rw [nI_clamp (by omega), ← htw]
    rw [e1, List.filter_append, ← h.2.2.2.2.2.2 k, xl_ins tape z hb.1, List.filter_append]
    by_cases q : tape = k
    · subst q
      have f3 : ((xl (n, K, V)).drop b).filter (kf tape) = [] := by
        rw [List.filter_eq_nil_iff]
        intro p hp y
        obtain ⟨i, hi, hg⟩ := drop_mem hp
        obtain ⟨hn, rfl⟩ := xl_at hg
        have z1 := pB_iff.mp y
        exact absurd (hb.2.2 i hi hn) (by rw [show K i = tape from z1]; exact Int64.lt_irrefl)
      have f4 : (xl (n, K, V)).filter (kf tape) = ((xl (n, K, V)).take b).filter (kf tape) := by
        have := congrArg (List.filter (kf tape)) (List.take_append_drop b (xl (n, K, V)))
        rw [List.filter_append, f3, List.append_nil] at this
        exact this.symm
      have hk : kf tape (tape, z) = true := pB_t rfl
      rw [f4, List.filter_cons_of_pos hk, f3, List.filter_cons_of_pos hk]
      rfl
    · have hk : kf k (tape, z) = false := pB_f q
      have f4 : (xl (n, K, V)).filter (kf k) = ((xl (n, K, V)).take b).filter (kf k) ++ ((xl (n, K, V)).drop b).filter (kf k) := by
        rw [← List.filter_append, List.take_append_drop]
      rw [f4, List.filter_cons_of_neg (by rw [hk]; decide), List.filter_cons_of_neg (by rw [hk]; decide)]
      simp
theorem fil_at {α : Type} {p : α → Bool} : ∀ {l : List α} {i : Nat} {x : α}, l[i]? = some x → p x = true → (l.filter p)[(l.take i).countP p]? = some x
  | [], i, x, h, _ => by simp at h
  | y :: l, 0, x, h, hp => by
    have e : y = x := by simpa using h
    subst e
    rw [List.filter_cons_of_pos hp]; rfl
  | y :: l, i + 1, x, h, hp => by
    have h' : l[i]? = some x := by simpa using h
    have ih := fil_at h' hp
    rw [List.take_succ_cons]
    by_cases q : p y = true
    · rw [List.filter_cons_of_pos q, List.countP_cons_of_pos q, List.getElem?_cons_succ]; exact ih
    · rw [List.filter_cons_of_neg q, List.countP_cons_of_neg q]; exact ih
theorem rl_take {n i : Nat} {fa fb : Nat → Int32} {fv : Nat → Int64} (h : i ≤ n) : (rl n fa fb fv).take i = rl i fa fb fv := by
  unfold rl
  rw [← List.map_take, List.take_range, Nat.min_eq_left h]
theorem RLn.read {c n m wm tm : Nat} {K V : Nat → Int64} {fa fb fw ft : Nat → Int32} {fv : Nat → Int64} {tape : Int64} {k : Int32} {r1 r2 : Int64} (h : RLn c (n, K, V) (rl m fa fb fv) wm fw) (hc : c ≤ 1000) (hT : TR tape tm ft)
    (h1 : ∃ b1 b2, BL n K tape b1 ∧ BU n K tape b2 ∧ ((∃ j, k = nI j ∧ j < b2 - b1 ∧ r1 = V (b1 + j)) ∨ (¬ (¬ k < 0 ∧ ¬ nI (b2 - b1) ≤ k) ∧ r1 = NO)))
    (h2 : (∃ w, w < wm ∧ vW (wF fw w) = vW (tS tm ft) ∧ RdR m fa fv w k r2) ∨ ((∀ w, w < wm → vW (wF fw w) ≠ vW (tS tm ft)) ∧ r2 = NO)) : r1 = r2 := by
  obtain ⟨b1, b2, hb1, hb2, h1⟩ := h1
  have hn := h.2.1
  have hb2n := hb2.1
  have hn' : n ≤ c := hn
  have hlen := seg_len (V := V) hb1 hb2
  rcases h2 with ⟨w, hw, hv, h2⟩ | ⟨hno, rfl⟩
  · have htw : tape = lN (pw (wF fw w)) := by rw [hT.2.2, (vp_eq (h.2.2.2.1 w hw).d hT.wv.d).mp hv]
    have hF := h.fil hc hw
    rw [← htw] at hF
    have hnum := h.num hc hw
    rw [← htw, hlen] at hnum
    have at' : ∀ i, i < m → fa i = nI w → ((xl (n, K, V)).filter (kf tape))[nmF i fa w]? = some (keyW fw (fa i, fb i, fv i), fv i) := by
      intro i hi hfa
      have h3 := fil_at (p := fun e : RT => pB (e.1 = nI w)) (rl_get (fa := fa) (fb := fb) (fv := fv) hi) (pB_t hfa)
      rw [rl_take (Nat.le_of_lt hi), ← nmF_c] at h3
      rw [hF, List.getElem?_map, h3]; rfl
    rcases h1 with ⟨j, rfl, hj, rfl⟩ | ⟨ho, rfl⟩ <;> rcases h2 with ⟨i, hi, hfa, hk, rfl⟩ | ⟨hk, rfl⟩
    · have hli := at' i hi hfa
      have hlt : nmF i fa w < ((xl (n, K, V)).filter (kf tape)).length := (List.getElem?_eq_some_iff.mp hli).1
      rw [hlen] at hlt
      have e : j = nmF i fa w := (nI_eq (by omega) (by omega)).mp hk
      rw [← e, seg_get hb1 hb2 hj] at hli
      exact (Prod.mk.inj (Option.some.inj hli)).2
    · rcases hk with hk | ⟨kk, hkk, hk, hle⟩
      · exact absurd hk (nI_pos (by omega))
      · have e : j = kk := (nI_eq (by omega) hkk).mp hk
        omega
    · have hli := at' i hi hfa
      have hlt : nmF i fa w < ((xl (n, K, V)).filter (kf tape)).length := (List.getElem?_eq_some_iff.mp hli).1
      rw [hlen] at hlt
      exact absurd (by rw [hk]; exact j_in hlt (by omega)) ho
    · rfl
  · have hnone := h.nix hc hT.wv hno
    rw [← hT.2.2] at hnone
    rw [hnone] at hlen
    rcases h1 with ⟨j, -, hj, -⟩ | ⟨-, rfl⟩
    · exact absurd hj (by rw [← hlen]; exact Nat.not_lt_zero j)
    · rfl
theorem RLn.toX {c n : Nat} {K V : Nat → Int64} {l : List RT} {wm : Nat} {fw : Nat → Int32} (h : RLn c (n, K, V) l wm fw) {e : RT} (he : e ∈ l) : ∃ i, i < n ∧ K i = keyW fw e := by
  obtain ⟨i, hi, q⟩ := xl_mem.mp (h.perm.mem_iff.mpr (List.mem_map_of_mem he))
  exact ⟨i, hi, (Prod.mk.inj q).1.symm⟩
theorem RLn.toM {c n : Nat} {K V : Nat → Int64} {l : List RT} {wm : Nat} {fw : Nat → Int32} (h : RLn c (n, K, V) l wm fw) (hc : c ≤ 1000) {i : Nat} (hi : i < n) : ∃ e w, e ∈ l ∧ w < wm ∧ e.1 = nI w ∧ K i = lN (pw (wF fw w)) := by
  obtain ⟨e, he, q⟩ := List.mem_map.mp (h.perm.mem_iff.mp (xl_mem.mpr ⟨i, hi, rfl⟩))
  obtain ⟨w, hw, e1⟩ := h.2.2.1 e he
  exact ⟨e, w, he, hw, e1, ((Prod.mk.inj q).1.symm).trans ((h.key hc he hw).mpr e1)⟩
theorem nmF_pos {m w : Nat} {fa fb : Nat → Int32} {fv : Nat → Int64} : 0 < nmF m fa w ↔ ∃ e, e ∈ rl m fa fb fv ∧ e.1 = nI w := by
  rw [nmF_c m fa fb fv, List.countP_pos_iff]
  exact ⟨fun q => q.elim fun e h => ⟨e, h.1, pB_iff.mp h.2⟩, fun q => q.elim fun e h => ⟨e, h.1, pB_t h.2⟩⟩
theorem RLn.next {c n m wm tm : Nat} {K V : Nat → Int64} {fa fb fw ft : Nat → Int32} {fv : Nat → Int64} {tape u : Int64} {r1 r2 : Int32} {v : (Nat → Int32) × Nat} (h : RLn c (n, K, V) (rl m fa fb fv) wm fw) (hc : c ≤ 1000) (hT : TR tape tm ft)
    (h1 : ∃ b, BU n K tape b ∧ ((b < n ∧ u = K b) ∨ (n ≤ b ∧ u = 0)) ∧ ∃ g, SG u g ∧ r1 = nI g)
    (h2 : r2 = nI v.2 ∧ v.2 ≤ 12 ∧ ((NxI wm fw (fun w => 0 < nmF m fa w ∧ vW (tS tm ft) < vW (wF fw w)) none ∧ v.2 = 0) ∨ ∃ b, NxI wm fw (fun w => 0 < nmF m fa w ∧ vW (tS tm ft) < vW (wF fw w)) (some b) ∧ (∀ j, j < v.2 → v.1 j = wF fw b j ∧ wF fw b j ≠ 0) ∧ (v.2 < 12 → wF fw b v.2 = 0))) : r1 = r2 ∧ TR u v.2 v.1 := by
  obtain ⟨b, hb, hu, g, hg, rfl⟩ := h1
  obtain ⟨rfl, h12, h2⟩ := h2
  have hTd := hT.wv.d
  have lt_iff : ∀ w, w < wm → (tape < lN (pw (wF fw w)) ↔ vW (tS tm ft) < vW (wF fw w)) := fun w hw => by
    rw [hT.2.2, lN_lt60 (pw_bd hTd) (pw_bd (h.2.2.2.1 w hw).d), vp_lt hTd (h.2.2.2.1 w hw).d]
  suffices hTR : TR u v.2 v.1 from ⟨congrArg nI (SG.uniq hTR hg), hTR⟩
  rcases hu with ⟨hbn, rfl⟩ | ⟨hbn, rfl⟩ <;> rcases h2 with ⟨hno, h0⟩ | ⟨w, ⟨hw, ⟨hpos, hgt⟩, hbest⟩, hj, hz⟩
  · obtain ⟨e, w, he, hw, e1, e2⟩ := h.toM hc hbn
    have hgt := hb.2.2 b (Nat.le_refl _) hbn
    rw [e2] at hgt
    exact absurd ⟨nmF_pos.mpr ⟨e, he, e1⟩, (lt_iff w hw).mp hgt⟩ (hno w hw)
  · obtain ⟨e', w', he', hw', e1', e2'⟩ := h.toM hc hbn
    have hgt' := hb.2.2 b (Nat.le_refl _) hbn
    rw [e2'] at hgt'
    have hle := hbest w' hw' ⟨nmF_pos.mpr ⟨e', he', e1'⟩, (lt_iff w' hw').mp hgt'⟩
    obtain ⟨e, he, e1⟩ := (nmF_pos (fb := fb) (fv := fv)).mp hpos
    obtain ⟨i, hi, q⟩ := h.toX he
    rw [(h.key hc he hw).mpr e1] at q
    have hib : b ≤ i := Nat.not_lt.mp fun z => by
      have := hb.2.1 i z
      rw [q] at this
      exact absurd ((lt_iff w hw).mpr hgt) (Int64.not_lt.mpr this)
    have hKle := h.1 b i hib hi
    have hKle' : K b ≤ K i := hKle
    rw [q, e2'] at hKle'
    have hpe : pw (wF fw w') = pw (wF fw w) := by
      have a1 : ¬ pw (wF fw w) < pw (wF fw w') := fun z => absurd ((lN_lt60 (pw_bd (h.2.2.2.1 w hw).d) (pw_bd (h.2.2.2.1 w' hw').d)).mpr z) (Int64.not_lt.mpr hKle')
      have a2 : ¬ pw (wF fw w') < pw (wF fw w) := fun z => by
        have := (vp_lt (h.2.2.2.1 w' hw').d (h.2.2.2.1 w hw).d).mpr z
        omega
      omega
    have hWV := h.2.2.2.1 w hw
    obtain ⟨mm, hm1, hm2, hm3⟩ := id hWV
    have hmm : mm ≤ v.2 := by
      refine Nat.not_lt.mp fun z => ?_
      have h3 := hz (by omega)
      have h4 := lt2_ne (hm2 v.2 z)
      rw [h3, dg_0] at h4
      exact absurd h4.1 (Nat.lt_irrefl 0)
    have heq : ∀ k, k < 12 → tS v.2 v.1 k = wF fw w k := by
      intro k hk
      rcases Nat.lt_or_ge k v.2 with z | z
      · rw [tS_t z]; exact (hj k z).1
      · rw [tS_f z, hm3 k (by omega) hk]
    refine ⟨h12, fun j hj2 => ?_, ?_⟩
    · obtain ⟨a1, a2⟩ := hj j hj2
      rw [a1]
      exact (hWV.d j (by omega)).resolve_left a2
    · rw [e2', hpe, pw_eq heq]
  · rw [h0]; exact TR.nil
  · obtain ⟨e, he, e1⟩ := (nmF_pos (fb := fb) (fv := fv)).mp hpos
    obtain ⟨i, hi, q⟩ := h.toX he
    rw [(h.key hc he hw).mpr e1] at q
    have := hb.2.1 i (by omega)
    rw [q] at this
    exact absurd ((lt_iff w hw).mpr hgt) (Int64.not_lt.mpr this)
theorem RLn.forget {c n m wm tm : Nat} {K V : Nat → Int64} {fa fb fw ft : Nat → Int32} {fv : Nat → Int64} {tape : Int64} {r1 r2 : Int32} {u : SS} {l' : List RT} (h : RLn c (n, K, V) (rl m fa fb fv) wm fw) (hc : c ≤ 1000) (hT : TR tape tm ft)
    (h1 : ∃ b1 b2, BL n K tape b1 ∧ BU n K tape b2 ∧ ((b2 ≤ b1 ∧ r1 = (-1) ∧ u = (n, K, V)) ∨ (b1 < b2 ∧ r1 = nI (b2 - b1) ∧ u = (n - (b2 - b1), va_cpy K K b2 b1 (n - b2), va_cpy V V b2 b1 (n - b2)))))
    (h2 : (∃ w, w < wm ∧ vW (wF fw w) = vW (tS tm ft) ∧ l' = (rl m fa fb fv).filter (fun e => pB (¬ e.1 = nI w)) ∧ ((nmF m fa w = 0 ∧ r2 = (-1)) ∨ (0 < nmF m fa w ∧ r2 = nI (nmF m fa w)))) ∨ ((∀ w, w < wm → vW (wF fw w) ≠ vW (tS tm ft)) ∧ l' = rl m fa fb fv ∧ r2 = (-1))) : r1 = r2 ∧ RLn c u l' wm fw := by
  obtain ⟨b1, b2, hb1, hb2, h1⟩ := h1
  have hlen := seg_len (V := V) hb1 hb2
  have h12 := hb1.leBU hb2
  have hb2n := hb2.1
  have hnc : n ≤ c := h.2.1
  have hSt : Srt n K := h.1
  -- what is left in the class's row
  have hcut : b1 < b2 → xl (n - (b2 - b1), va_cpy K K b2 b1 (n - b2), va_cpy V V b2 b1 (n - b2)) = (xl (n, K, V)).take b1 ++ (xl (n, K, V)).drop b2 := by
    intro hlt
    have hl1 : ((xl (n, K, V)).take b1).length = b1 := by rw [List.length_take, xl_len]; show min b1 n = b1; omega
    refine xl_ext ?_ (fun i hi => ?_)
    · rw [List.length_append, hl1, List.length_drop, xl_len]; show b1 + (n - b2) = n - (b2 - b1); omega
    · have hi' : i < n - (b2 - b1) := hi
      show _ = some (va_cpy K K b2 b1 (n - b2) i, va_cpy V V b2 b1 (n - b2) i)
      by_cases q : i < b1
      · rw [List.getElem?_append_left (by omega), List.getElem?_take, if_pos q, xl_get (show i < n by omega), pk_cpy_out (Or.inl q), pk_cpy_out (Or.inl q)]
      · rw [List.getElem?_append_right (by omega), hl1, List.getElem?_drop, xl_get (show b2 + (i - b1) < n by omega), pk_cpy_in (by omega) (by omega), pk_cpy_in (by omega) (by omega)]
  have hfilt : ∀ k, k ≠ tape → ((xl (n, K, V)).take b1 ++ (xl (n, K, V)).drop b2).filter (kf k) = (xl (n, K, V)).filter (kf k) := by
    intro k hk
    have e := List.take_append_drop b1 ((xl (n, K, V)).take b2)
    have e2 := List.take_append_drop b2 (xl (n, K, V))
    rw [List.take_take, Nat.min_eq_left h12] at e
    have hmid : (((xl (n, K, V)).take b2).drop b1).filter (kf k) = [] := by
      rw [← seg hb1 hb2, List.filter_filter, List.filter_eq_nil_iff]
      intro q _ z
      have z2 := Bool.and_eq_true_iff.mp z
      exact hk ((pB_iff.mp z2.1).symm.trans (pB_iff.mp z2.2))
    calc ((xl (n, K, V)).take b1 ++ (xl (n, K, V)).drop b2).filter (kf k) = (((xl (n, K, V)).take b1).filter (kf k) ++ (((xl (n, K, V)).take b2).drop b1).filter (kf k)) ++ ((xl (n, K, V)).drop b2).filter (kf k) := by rw [hmid, List.append_nil, List.filter_append]
      _ = (xl (n, K, V)).filter (kf k) := by rw [← List.filter_append, e, ← List.filter_append, e2]
  have hzero : ((xl (n, K, V)).take b1 ++ (xl (n, K, V)).drop b2).filter (kf tape) = [] := by
    rw [List.filter_eq_nil_iff]
    intro q hq z
    have z1 := pB_iff.mp z
    rcases List.mem_append.mp hq with y | y
    · obtain ⟨i, hi, hg⟩ := take_mem y
      obtain ⟨hn, rfl⟩ := xl_at hg
      exact absurd (hb1.2.1 i hi) (by rw [show K i = tape from z1]; exact Int64.lt_irrefl)
    · obtain ⟨i, hi, hg⟩ := drop_mem y
      obtain ⟨hn, rfl⟩ := xl_at hg
      exact absurd (hb2.2.2 i hi hn) (by rw [show K i = tape from z1]; exact Int64.lt_irrefl)
  have hsrt : b1 < b2 → Srt (n - (b2 - b1)) (va_cpy K K b2 b1 (n - b2)) := by
    intro hlt i j hij hj
    by_cases q : i < b1
    · rw [pk_cpy_out (Or.inl q)]
      by_cases q2 : j < b1
      · rw [pk_cpy_out (Or.inl q2)]; exact hSt i j hij (by omega)
      · rw [pk_cpy_in (by omega) (by omega)]; exact hSt i _ (by omega) (by omega)
    · rw [pk_cpy_in (by omega) (by omega), pk_cpy_in (by omega) (by omega)]; exact hSt _ _ (by omega) (by omega)
  rcases h2 with ⟨w, hw, hv, rfl, h2⟩ | ⟨hno, rfl, rfl⟩
  · have htw : tape = lN (pw (wF fw w)) := by rw [hT.2.2, (vp_eq (h.2.2.2.1 w hw).d hT.wv.d).mp hv]
    have hnum := h.num hc hw
    rw [← htw, hlen] at hnum
    have hM0 : (((rl m fa fb fv).filter (fun e => pB (¬ e.1 = nI w))).map (ent fw)).filter (kf tape) = [] := by
      rw [List.filter_eq_nil_iff]
      intro q hq z
      obtain ⟨e, he, rfl⟩ := List.mem_map.mp hq
      obtain ⟨he1, he2⟩ := List.mem_filter.mp he
      have z1 : keyW fw e = tape := pB_iff.mp z
      rw [htw] at z1
      exact pB_iff.mp he2 ((h.key hc he1 hw).mp z1)
    have hMk : ∀ k, k ≠ tape → (((rl m fa fb fv).filter (fun e => pB (¬ e.1 = nI w))).map (ent fw)).filter (kf k) = ((rl m fa fb fv).map (ent fw)).filter (kf k) := by
      intro k hk
      rw [List.filter_map, List.filter_map, List.filter_filter]
      refine congrArg _ (List.filter_congr fun e he => ?_)
      cases q : (kf k ∘ ent fw) e with
      | false => simp
      | true =>
        have q1 : keyW fw e = k := pB_iff.mp q
        have : ¬ e.1 = nI w := fun z => hk (by rw [← q1, htw]; exact (h.key hc he hw).mpr z)
        rw [pB_t this]; rfl
    rcases h1 with ⟨hle, rfl, rfl⟩ | ⟨hlt, rfl, rfl⟩ <;> rcases h2 with ⟨h0, rfl⟩ | ⟨hp, rfl⟩
    · refine ⟨rfl, h.1, h.2.1, fun e he => h.2.2.1 e (List.mem_filter.mp he).1, h.2.2.2.1, h.2.2.2.2.1, h.2.2.2.2.2.1, fun k => ?_⟩
      by_cases q : k = tape
      · rw [q, hM0]
        exact List.eq_nil_of_length_eq_zero (by rw [hlen]; omega)
      · rw [hMk k q]; exact h.2.2.2.2.2.2 k
    · omega
    · omega
    · refine ⟨congrArg nI hnum.symm, hsrt hlt, (show n - (b2 - b1) ≤ c by omega), fun e he => h.2.2.1 e (List.mem_filter.mp he).1, h.2.2.2.1, h.2.2.2.2.1, h.2.2.2.2.2.1, fun k => ?_⟩
      rw [hcut hlt]
      by_cases q : k = tape
      · rw [q, hM0, hzero]
      · rw [hMk k q, hfilt k q]; exact h.2.2.2.2.2.2 k
  · have hnone := h.nix hc hT.wv hno
    rw [← hT.2.2] at hnone
    rw [hnone] at hlen
    have hlen' : 0 = b2 - b1 := hlen
    rcases h1 with ⟨hle, rfl, rfl⟩ | ⟨hlt, -, -⟩
    · exact ⟨rfl, h⟩
    · omega
/-- as many different ones as a list without doubles has -/
theorem dcnt_set : ∀ (L A : List Int64), A.Nodup → (∀ x, x ∈ L ↔ x ∈ A) → dcnt L = A.length
  | [], A, _, h => by
    cases A with
    | nil => rfl
    | cons a t => exact absurd ((h a).mpr List.mem_cons_self) List.not_mem_nil
  | x :: t, A, hA, h => by
    show (bif pB (x ∈ t) then dcnt t else dcnt t + 1) = _
    by_cases q : x ∈ t
    · rw [pB_t q]
      exact dcnt_set t A hA (fun y => ⟨fun z => (h y).mp (List.mem_cons_of_mem _ z), fun z => (List.mem_cons.mp ((h y).mpr z)).elim (fun e => e ▸ q) id⟩)
    · have hx : x ∈ A := (h x).mp List.mem_cons_self
      have ih := dcnt_set t (A.erase x) (hA.erase x) (fun y => by
        rw [hA.mem_erase_iff]
        exact ⟨fun z => ⟨fun e => q (e ▸ z), (h y).mp (List.mem_cons_of_mem _ z)⟩, fun z => (List.mem_cons.mp ((h y).mpr z.2)).resolve_left z.1⟩)
      rw [pB_f q, List.length_erase_of_mem hx] at *
      have hpos : 0 < A.length := List.length_pos_of_mem hx
      show dcnt t + 1 = _
      omega
theorem sh0 (x : Int64) : x >>> ((nI 0).toInt64 &&& 63) = x := by
  rw [show ((nI 0).toInt64 &&& 63) = (0 : Int64) by decide]
  apply Int64.toBitVec_inj.mp
  rw [Int64.toBitVec_shiftRight]
  show x.toBitVec.sshiftRight 0 = _
  simp
theorem cntF_f2 (P : Nat → Bool) : ∀ n, cntF P n = ((List.range n).filter P).length
  | 0 => rfl
  | n + 1 => by
    rw [List.range_succ, List.filter_append, List.length_append, ← cntF_f2 P n]
    show (bif P n then cntF P n + 1 else cntF P n) = _
    cases q : P n <;> simp [q]
theorem RLn.words {c n m wm : Nat} {K V : Nat → Int64} {fa fb fw : Nat → Int32} {fv : Nat → Int64} (h : RLn c (n, K, V) (rl m fa fb fv) wm fw) (hc : c ≤ 1000) : grp (fun i => K i >>> ((nI 0).toInt64 &&& 63)) n = cntF (fun w => pB (0 < nmF m fa w)) wm := by
  have e0 : (fun i => K i >>> ((nI 0).toInt64 &&& 63)) = K := funext fun i => sh0 (K i)
  rw [e0, grp_d h.1, cntF_f2]
  have hnd : (((List.range wm).filter (fun w => pB (0 < nmF m fa w))).map (fun w => lN (pw (wF fw w)))).Nodup := by
    rw [List.Nodup, List.pairwise_map]
    refine List.Pairwise.imp_of_mem (R := fun a b => a ≠ b) ?_ (List.nodup_range.sublist List.filter_sublist)
    intro a b ha hb hab q
    have h1 := List.mem_range.mp (List.mem_filter.mp ha).1
    have h2 := List.mem_range.mp (List.mem_filter.mp hb).1
    rw [lN_inj60 (pw_bd (h.2.2.2.1 a h1).d) (pw_bd (h.2.2.2.1 b h2).d), ← vp_eq (h.2.2.2.1 a h1).d (h.2.2.2.1 b h2).d] at q
    exact hab (h.2.2.2.2.1 a b h1 h2 q)
  rw [dcnt_set (rg K n) _ hnd (fun x => ?_), List.length_map]
  rw [rg_mem, List.mem_map]
  constructor
  · rintro ⟨i, hi, rfl⟩
    obtain ⟨e, w, he, hw, e1, e2⟩ := h.toM hc hi
    exact ⟨w, List.mem_filter.mpr ⟨List.mem_range.mpr hw, pB_t (nmF_pos.mpr ⟨e, he, e1⟩)⟩, e2.symm⟩
  · rintro ⟨w, hw, rfl⟩
    obtain ⟨h1, h2⟩ := List.mem_filter.mp hw
    obtain ⟨e, he, e1⟩ := (nmF_pos (fb := fb) (fv := fv)).mp (pB_iff.mp h2)
    obtain ⟨i, hi, q⟩ := h.toX he
    exact ⟨i, hi, q.trans ((h.key hc he (List.mem_range.mp h1)).mpr e1)⟩
theorem TR.zero {tape : Int64} {tm : Nat} {ft : Nat → Int32} (h : TR tape tm ft) : tape = 0 ↔ tm = 0 := by
  have hd := h.wv.d
  constructor
  · intro q
    refine Nat.eq_zero_of_not_pos fun z => ?_
    have e := sg_dig hd (k := 0) (by decide)
    rw [← h.2.2, q, tS_t z] at e
    have h2 := lt2_ne (h.2.1 0 z)
    have e0 : sgA 0 0 = 0 := by decide
    rw [e0] at e
    exact nI_ne0 h2.1 (by omega) e.symm
  · intro q
    subst q
    have := (TR.nil (ft := ft)).2.2
    rw [h.2.2, ← this]
theorem TR.signs {tape : Int64} {tm : Nat} {ft : Nat → Int32} {lt : Int32} {r1 r2 : Int32} {u : Int64} {v : (Nat → Int32) × Nat} (h : TR tape tm ft)
    (h1 : (¬ (nI 97 ≤ lt ∧ lt ≤ nI 122) ∧ r1 = (-1) ∧ u = tape) ∨ ((nI 97 ≤ lt ∧ lt ≤ nI 122) ∧ ∃ g, SG tape g ∧ ((g = 12 ∧ r1 = (-3) ∧ u = tape) ∨ (g < 12 ∧ r1 = nI (g + 1) ∧ u = tape + ((lt - nI 96).toInt64 <<< ((nI (5 * (11 - g))).toInt64 &&& 63))))))
    (h2 : (¬ (nI 97 ≤ lt ∧ lt ≤ nI 122) ∧ r2 = (-1) ∧ v = (ft, tm)) ∨ ((nI 97 ≤ lt ∧ lt ≤ nI 122) ∧ ((tm = 12 ∧ r2 = (-3) ∧ v = (ft, tm)) ∨ (tm < 12 ∧ r2 = nI (tm + 1) ∧ v = (upd ft tm lt, tm + 1))))) : r1 = r2 ∧ TR u v.2 v.1 := by
  rcases h1 with ⟨z, rfl, rfl⟩ | ⟨z, g, hg, h1⟩ <;> rcases h2 with ⟨y, rfl, rfl⟩ | ⟨y, h2⟩
  · exact ⟨rfl, h⟩
  · exact absurd y z
  · exact absurd z y
  · have e := SG.uniq h hg
    subst e
    rcases h1 with ⟨a, rfl, rfl⟩ | ⟨a, rfl, rfl⟩ <;> rcases h2 with ⟨b, rfl, rfl⟩ | ⟨b, rfl, rfl⟩
    · exact ⟨rfl, h⟩
    · omega
    · omega
    · exact ⟨rfl, h.sign (g := g) z a⟩
theorem TR.letter {tape : Int64} {tm : Nat} {ft : Nat → Int32} {k r1 r2 : Int32} (h : TR tape tm ft)
    (h1 : (k < 0 ∧ r1 = (-1)) ∨ ∃ g, SG tape g ∧ ((∃ j, k = nI j ∧ j < g ∧ r1 = nI 96 + sgA tape j) ∨ (¬ (¬ k < 0 ∧ ¬ nI g ≤ k) ∧ r1 = (-1))))
    (h2 : (∃ j, k = nI j ∧ j < tm ∧ r2 = ft j) ∨ (¬ (¬ k < 0 ∧ ¬ nI tm ≤ k) ∧ r2 = (-1))) : r1 = r2 := by
  have h12 := h.1
  rcases h1 with ⟨z, rfl⟩ | ⟨g, hg, h1⟩
  · rcases h2 with ⟨j, rfl, hj, rfl⟩ | ⟨-, rfl⟩
    · exact absurd z (nI_pos (by omega))
    · rfl
  · have e := SG.uniq h hg
    subst e
    rcases h1 with ⟨j, rfl, hj, rfl⟩ | ⟨a, rfl⟩ <;> rcases h2 with ⟨i, hk, hi, rfl⟩ | ⟨b, rfl⟩
    · have e : j = i := (nI_eq (by omega) (by omega)).mp hk
      subst e
      rw [h.2.2, sg_dig h.wv.d (by omega), tS_t hj]
      exact (lt2_ne (h.2.1 j hj)).2.2.symm
    · exact absurd (j_in hj (by omega)) b
    · subst hk; exact absurd (j_in hi (by omega)) a
    · rfl
