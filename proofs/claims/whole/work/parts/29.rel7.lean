/-! what the law's cases want -/
theorem RC.sweep2 {c n m m' : Nat} {K V : Nat → Int64} {fa fb fa' fb' : Nat → Int32} {fv fv' : Nat → Int64} {u : SS} {r1 r2 : Int32} (h : RC c (n, K, V) (rl m fa fb fv))
    (h1 : u = ((cmpF (fun k _ => pB (¬ evK k)) K V n).1, (cmpF (fun k _ => pB (¬ evK k)) K V n).2.1, (cmpF (fun k _ => pB (¬ evK k)) K V n).2.2) ∧ r1 = nI (n - (cmpF (fun k _ => pB (¬ evK k)) K V n).1))
    (h2 : rl m' fa' fb' fv' = (rl m fa fb fv).filter (fun e => pB (¬ evR e)) ∧ r2 = nI (m - m')) : r1 = r2 ∧ RC c u (rl m' fa' fb' fv') := by
  obtain ⟨rfl, rfl⟩ := h1
  obtain ⟨e, rfl⟩ := h2
  have hs := h.sweep
  rw [← e] at hs
  have l1 := h.len
  have l2 := hs.len
  rw [rl_len] at l1 l2
  refine ⟨?_, hs⟩
  rw [l1, l2]
theorem RO.retain2 {c d n nc m m' : Nat} {K V Kc Vc : Nat → Int64} {t : Int64} {fa fb fa' fb' : Nat → Int32} {fv fv' : Nat → Int64} {lc : List RT} {u : SS} {r1 r2 : Int32} (h : RO c (n, K, V) t (rl m fa fb fv)) (hc : RC d (nc, Kc, Vc) lc)
    (h1 : u = ((cmpF (fun _ v => pB (∃ j, j < nc ∧ Kc j = v)) K V n).1, (cmpF (fun _ v => pB (∃ j, j < nc ∧ Kc j = v)) K V n).2.1, (cmpF (fun _ v => pB (∃ j, j < nc ∧ Kc j = v)) K V n).2.2) ∧ r1 = nI (cmpF (fun _ v => pB (∃ j, j < nc ∧ Kc j = v)) K V n).1)
    (h2 : rl m' fa' fb' fv' = (rl m fa fb fv).filter (fun e => pB (∃ e', e' ∈ lc ∧ e'.1 = e.1 ∧ e'.2.1 = e.2.1)) ∧ r2 = nI m') : r1 = r2 ∧ RO c u t (rl m' fa' fb' fv') := by
  obtain ⟨rfl, rfl⟩ := h1
  obtain ⟨e, rfl⟩ := h2
  have hs := h.retain hc
  rw [← e] at hs
  have l2 := hs.len
  rw [rl_len] at l2
  exact ⟨by rw [l2], hs⟩
theorem RLn.line2 {c n m m' wm wm' tm : Nat} {K V : Nat → Int64} {fa fb fa' fb' fw fw' ft : Nat → Int32} {fv fv' : Nat → Int64} {tape z : Int64} {u : SS} {r1 r2 : Int32} (h : RLn c (n, K, V) (rl m fa fb fv) wm fw) (hc : c ≤ 999) (hT : TR tape tm ft)
    (h1 : (tape = 0 ∧ r1 = (-1) ∧ u = (n, K, V)) ∨ (tape ≠ 0 ∧ ∃ b, BU n K tape b ∧ u = (n + 1, inS K n b tape, inS V n b z) ∧ ∃ b1 b2, BL (n + 1) (inS K n b tape) tape b1 ∧ BU (n + 1) (inS K n b tape) tape b2 ∧ r1 = nI (b2 - b1)))
    (h2 : (tm = 0 ∧ r2 = (-1) ∧ wm' = wm ∧ fw' = fw ∧ rl m' fa' fb' fv' = rl m fa fb fv) ∨ (tm ≠ 0 ∧ ∃ w, ((w < wm ∧ wm' = wm) ∨ ((∀ w, w < wm → vW (wF fw w) ≠ vW (tS tm ft)) ∧ w = wm ∧ wm' = wm + 1)) ∧ (∀ i, i < 12 * wm → fw' i = fw i) ∧ vW (wF fw' w) = vW (tS tm ft) ∧ rl m' fa' fb' fv' = rl m fa fb fv ++ [(nI w, 0, z)] ∧ m' = m + 1 ∧ r2 = nI (nmF m' fa' w))) : r1 = r2 ∧ RLn (c + 1) u (rl m' fa' fb' fv') wm' fw' := by
  have hz := hT.zero
  rcases h1 with ⟨t0, rfl, rfl⟩ | ⟨t0, b, hb, rfl, b1, b2, hb1, hb2, rfl⟩ <;> rcases h2 with ⟨y, rfl, rfl, rfl, e⟩ | ⟨y, w, hw, hfw, hv, e, -, rfl⟩
  · rw [e]; exact ⟨rfl, h.mono (Nat.le_succ c)⟩
  · exact absurd (hz.mp t0) y
  · exact absurd (hz.mpr y) t0
  · obtain ⟨hN, hww, htw⟩ := h.line (z := z) hc hT hb hw hfw hv
    rw [← e] at hN
    refine ⟨?_, hN⟩
    have hnum := hN.num (by omega) hww
    rw [← htw, seg_len hb1 hb2] at hnum
    rw [hnum]
theorem RP.anyV {c n : Nat} {K V V' : Nat → Int64} {l : List RT} (h : RP c (n, K, V) l) : RP c (n, K, V') l := by
  refine ⟨h.1, h.2.1, ?_⟩
  have e : kys (n, K, V') = kys (n, K, V) := by
    unfold kys xl
    rw [List.map_map, List.map_map]; rfl
  rw [e]; exact h.2.2
theorem RP.mark2 {c n m m' : Nat} {K V : Nat → Int64} {fa fb fa' fb' : Nat → Int32} {fv fv' : Nat → Int64} {a b r1 r2 : Int32} {u : SS} (h : RP c (n, K, V) (rl m fa fb fv))
    (h1 : r1 = nI u.1 ∧ ((∃ j, j < n ∧ K j = pk a b ∧ u = rmS n K V j) ∨ ((∀ j, j < n → K j ≠ pk a b) ∧ ∃ r0, StR n K V (pk a b) 0 r0 u)))
    (h2 : r2 = nI m' ∧ ((∃ (j : Nat) (e : RT), (rl m fa fb fv)[j]? = some e ∧ e.1 = a ∧ e.2.1 = b ∧ rl m' fa' fb' fv' = (rl m fa fb fv).eraseIdx j) ∨ ((∀ e, e ∈ rl m fa fb fv → ¬ (e.1 = a ∧ e.2.1 = b)) ∧ rl m' fa' fb' fv' = rl m fa fb fv ++ [(a, b, 0)]))) : r1 = r2 ∧ RP (c + 1) u (rl m' fa' fb' fv') := by
  obtain ⟨rfl, h1⟩ := h1
  obtain ⟨rfl, h2⟩ := h2
  have hs := h.mark h1 h2
  have l2 := hs.len
  rw [rl_len] at l2
  exact ⟨by rw [l2], hs⟩
theorem RP.step2 {c np m m' n5 : Nat} {Kp Vp K5 V5 : Nat → Int64} {fa fb fa' fb' : Nat → Int32} {fv fv' : Nat → Int64} {r1 r2 : Int32} (h : RP c (np, Kp, Vp) (rl m fa fb fv))
    (h1 : (60 < np ∧ r1 = (-1) ∧ n5 = np ∧ K5 = Kp) ∨ (np ≤ 60 ∧ ∃ n1 K1 V1, TAL (n1, K1, V1) (allE Kp np) ∧ n5 = (cmpF (fun k v => pB (v = 3 ∨ (v = 2 ∧ ∃ j, j < np ∧ Kp j = k))) K1 V1 n1).1 ∧ K5 = (cmpF (fun k v => pB (v = 3 ∨ (v = 2 ∧ ∃ j, j < np ∧ Kp j = k))) K1 V1 n1).2.1 ∧ r1 = nI n5))
    (h2 : (60 < m ∧ r2 = (-1) ∧ rl m' fa' fb' fv' = rl m fa fb fv) ∨ (m ≤ 60 ∧ r2 = nI m' ∧ rl m' fa' fb' fv' = thn (rl m fa fb fv) fa fb (9 * m))) : r1 = r2 ∧ RP (c + 1) (n5, K5, V5) (rl m' fa' fb' fv') := by
  have l1 := h.len
  rw [rl_len] at l1
  have l1' : m = np := l1
  rcases h1 with ⟨y, rfl, rfl, rfl⟩ | ⟨y, n1, K1, V1, hT, rfl, rfl, rfl⟩ <;> rcases h2 with ⟨z, rfl, e⟩ | ⟨z, rfl, e⟩
  · rw [e]; exact ⟨rfl, h.anyV.mono (Nat.le_succ c)⟩
  · omega
  · omega
  · have hs := RP.anyV (V' := V5) (h.step y hT)
    rw [← e] at hs
    have l2 := hs.len
    rw [rl_len] at l2
    have l2' : m' = (cmpF (fun k v => pB (v = 3 ∨ (v = 2 ∧ ∃ j, j < np ∧ Kp j = k))) K1 V1 n1).1 := l2
    exact ⟨by rw [l2'], hs⟩
theorem szR.fn {wh r1 r2 : Int32} {a0 a1 a2 a3 a4 a5 a6 b0 b1 b2 b3 b4 b5 b6 : Nat} (h1 : szR wh r1 a0 a1 a2 a3 a4 a5 a6) (h2 : szR wh r2 b0 b1 b2 b3 b4 b5 b6) (e0 : a0 = b0) (e1 : a1 = b1) (e2 : a2 = b2) (e3 : a3 = b3) (e4 : a4 = b4) (e5 : a5 = b5) (e6 : a6 = b6) : r1 = r2 := by
  subst e0; subst e1; subst e2; subst e3; subst e4; subst e5; subst e6
  have t : ∀ k : Nat, k < 7 → (nI k).toInt = k := fun k hk => nI_toInt (by omega)
  have ne : ∀ {i j : Nat}, i < 7 → j < 7 → i ≠ j → wh = nI i → wh = nI j → False := fun hi hj hij p q => hij ((nI_eq (by omega) (by omega)).mp (p.symm.trans q))
  have no : ∀ {k : Nat}, k < 7 → wh = nI k → (wh.toInt < 0 ∨ 6 < wh.toInt) → False := fun hk p q => by
    rw [p, t _ hk] at q; omega
  rcases h1 with ⟨p, rfl⟩ | ⟨p, rfl⟩ | ⟨p, rfl⟩ | ⟨p, rfl⟩ | ⟨p, rfl⟩ | ⟨p, rfl⟩ | ⟨p, rfl⟩ | ⟨p, rfl⟩ <;> rcases h2 with ⟨q, rfl⟩ | ⟨q, rfl⟩ | ⟨q, rfl⟩ | ⟨q, rfl⟩ | ⟨q, rfl⟩ | ⟨q, rfl⟩ | ⟨q, rfl⟩ | ⟨q, rfl⟩ <;> first | rfl | exact (ne (by decide) (by decide) (by decide) p q).elim | exact (no (by decide) p q).elim | exact (no (by decide) q p).elim
