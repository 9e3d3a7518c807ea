/-! THE LAW: its loop and its start -/
theorem RC.nil {K V : Nat → Int64} {fa fb : Nat → Int32} {fv : Nat → Int64} : RC 0 (0, K, V) (rl 0 fa fb fv) := ⟨fun i j _ h => absurd h (Nat.not_lt_zero j), Nat.le_refl _, List.Perm.refl _⟩
theorem RO.nil {K V : Nat → Int64} {fa fb : Nat → Int32} {fv : Nat → Int64} : RO 0 (0, K, V) 0 (rl 0 fa fb fv) := ⟨fun i j _ h => absurd h (Nat.not_lt_zero j), Nat.le_refl _, fun i h => absurd h (Nat.not_lt_zero i), ⟨0, Nat.le_refl _, rfl⟩, rfl, List.nodup_nil⟩
theorem RP.nil {K V : Nat → Int64} {fa fb : Nat → Int32} {fv : Nat → Int64} : RP 0 (0, K, V) (rl 0 fa fb fv) := ⟨fun i j _ h => absurd h (Nat.not_lt_zero j), Nat.zero_le _, List.Perm.refl _⟩
theorem RLn.nil {K V : Nat → Int64} {fa fb fw : Nat → Int32} {fv : Nat → Int64} : RLn 0 (0, K, V) (rl 0 fa fb fv) 0 fw := ⟨fun i j _ h => absurd h (Nat.not_lt_zero j), Nat.le_refl _, fun e h => absurd h List.not_mem_nil, fun w h => absurd h (Nat.not_lt_zero w), fun w _ h => absurd h (Nat.not_lt_zero w), Nat.le_refl _, fun _ => rfl⟩
theorem k32 {k : Nat} (h : k < 2 ^ 5) : k = 0 ∨ k = 1 ∨ k = 2 ∨ k = 3 ∨ k = 4 ∨ k = 5 ∨ k = 6 ∨ k = 7 ∨ k = 8 ∨ k = 9 ∨ k = 10 ∨ k = 11 ∨ k = 12 ∨ k = 13 ∨ k = 14 ∨ k = 15 ∨ k = 16 ∨ k = 17 ∨ k = 18 ∨ k = 19 ∨ k = 20 ∨ k = 21 ∨ k = 22 ∨ k = 23 ∨ k = 24 ∨ k = 25 ∨ k = 26 ∨ k = 27 ∨ k = 28 ∨ k = 29 ∨ k = 30 ∨ k = 31 := by omega

set_option maxHeartbeats 8000000 in
set_option maxRecDepth 100000 in
theorem law_loop {p : Program} {l : Launch} {e : Env} {s : State} {m : MethodId} {below : List Frame} {meth : Method} {cc0 : Code} {b L : Nat} {xs : Nat → Int32} {D : va_G} {cI cJ : ClassId} {x y cells slots : Nat} {H : Heap} {locs : List Loc} {ls : Array Slot} (C0 : lw_At p s m meth cc0 b L xs) (hL : L ≤ 241) (hK : va_K D vwCl (tys cI cJ) s) (hnw : va_Nw nestW s) (hI : LI D cI cJ (fun q => s.heap.size ≤ q) H x y 0) (hS : va_S (fun q => s.heap.size ≤ q) s.heap H locs) (hl : lv_has ls 4 [(0, .ref b), (1, .ref x), (2, .ref y), (3, .int (nI (1 + 5 * 0)))]) (hce : cells ≤ 60 + 0 * 2200) (hsl : slots ≤ 9000 + 0 * 13300) : W p l e room_1 s m #[Value.ref b] below meth cc0 H locs cells slots (lw_Z below #[Value.ref b] s) (F0 m 28 ls []) := by
  refine z_loopc (σ := Nat) (fun c => 60 - c) (fun c cells slots H locs ls => LI D cI cJ (fun q => s.heap.size ≤ q) H x y c ∧ va_S (fun q => s.heap.size ≤ q) s.heap H locs ∧ lv_has ls 4 [(0, .ref b), (1, .ref x), (2, .ref y), (3, .int (nI (1 + 5 * c)))] ∧ cells ≤ 60 + c * 2200 ∧ slots ≤ 9000 + c * 13300 ∧ c ≤ 48) ?_ 0 _ _ _ _ _ ⟨hI, hS, hl, hce, hsl, by decide⟩
  rintro c cells slots H locs ls ⟨hI, hS, hl, hce, hsl, hc48⟩ ih
  obtain ⟨hx, hb, hr, hml, hown, hts0, hX, hbl, hlocks, hgv⟩ := id C0
  have hA : ∀ q : Nat, s.heap.size ≤ q → (fun q : Nat => s.heap.size ≤ q) q := fun _ h => h
  have hbA : ¬ (fun q : Nat => s.heap.size ≤ q) b := Nat.not_le.mpr hbl
  refine lv_iload_n hx hb dL_law_28 rfl (lv_at hl 3 rfl) ?_
  refine lv_aload_n hx hb dL_law_29 rfl (lv_at hl 0 rfl) ?_
  refine va_slen hx hb hX hbl hbA hS dL_law_30 ?_
  refine z_topi (y := nI L) rfl ?_
  refine lv_iconst (v := nI 5) hx hb dL_law_31 (by decide) ?_
  refine lv_isub hx hb dL_law_32 ?_
  refine lv_icmp_gt (tgt := 1034) hx hb dL_law_33 (by decide) (fun c_33 => ?_) (fun c_33 => ?_)
  · refine lv_iconst (v := 1) hx hb dL_law_1034 (by decide) ?_
    refine va_forget (fun q hq => hS.2.2 q hq) ?_
    refine W.widen (k := 600000) (n := 7302249) (by omega) (by omega) ?_
    exact lw_ret hx hb hr hlocks dL_law_1035
  · have hi : 1 + 5 * c + 4 < L := by
      have h1 : nI (1 + 5 * c) ≤ nI L - nI 5 := Int32.not_lt.mp c_33
      rw [Int32.le_iff_toInt_le, nI_toInt (by omega), pk_sub_toInt (by omega) (by decide)] at h1
      omega
    have hc : c < 48 := by omega
    have hnext : ∀ (H' : Heap) (locs' : List Loc) (cells' slots' : Nat), LI D cI cJ (fun q => s.heap.size ≤ q) H' x y (c + 1) → va_S (fun q => s.heap.size ≤ q) s.heap H' locs' → cells' ≤ 60 + (c + 1) * 2200 → slots' ≤ 9000 + (c + 1) * 13300 → W p l e room_1 s m #[Value.ref b] below meth cc0 H' locs' cells' slots' (lw_Z below #[Value.ref b] s) (F0 m 1028 ls []) := by
      intro H' locs' cells' slots' hI' hS' hce' hsl'
      refine lv_iinc (v := nI (1 + 5 * (c + 1))) (lv' := [(3, .int (nI (1 + 5 * (c + 1)))), (0, .ref b), (1, .ref x), (2, .ref y)]) hx hb dL_law_1028 hl (k := 3) rfl ((nI_add (1 + 5 * c) 5).trans (congrArg nI (by omega))) (by decide) rfl (fun ls hl => ?_)
      refine lv_goto (tgt := 28) hx hb dL_law_1031 (by decide) ?_
      exact ih (c + 1) _ _ _ _ _ ⟨hI', hS', lv_sub hl [1, 2, 3, 0] rfl, hce', hsl', by omega⟩ (by omega)
    obtain ⟨ad, nt, g, f, wv, hP, hD, hC0, hC1, hC2, hC3, hC4, hC5, hn6, hTR, hR0, hR1, hR2, hR3, hR4, hR5, hwc, hwc0, hwc2⟩ := id hI
    refine lv_aload_n hx hb dL_law_36 rfl (lv_at hl 0 rfl) ?_
    refine lv_iload_n hx hb dL_law_37 rfl (lv_at hl 3 rfl) ?_
    refine z_sld hx hb hX hbl hbA hS (j := 1 + 5 * c) (by omega) (by omega) dL_law_38 ?_
    refine lv_bipush (v := nI 31) hx hb dL_law_39 (by decide) ?_
    refine lv_iand hx hb dL_law_41 ?_
    obtain ⟨k, hk, hke⟩ := pk_andE (xs (1 + 5 * c)) (m := nI 31) 5 (by decide)
    refine z_topi (y := nI k) hke ?_
    rcases k32 hk with rfl | rfl | rfl | rfl | rfl | rfl | rfl | rfl | rfl | rfl | rfl | rfl | rfl | rfl | rfl | rfl | rfl | rfl | rfl | rfl | rfl | rfl | rfl | rfl | rfl | rfl | rfl | rfl | rfl | rfl | rfl | rfl
    · refine lv_tableIn (tgt := 168) hx hb dL_law_42 (by decide) (by decide) (off := 126) (by decide) (by decide) ?_
      exact lc_add C0 hL hK hnw hA hbA hi hc hS hl hce hsl hP hD hC0 hC1 hC2 hC3 hC4 hC5 hn6 hTR hR0 hR1 hR2 hR3 hR4 hR5 hwc hwc0 hwc2 hnext
    · refine lv_tableIn (tgt := 212) hx hb dL_law_42 (by decide) (by decide) (off := 170) (by decide) (by decide) ?_
      exact lc_count C0 hL hK hnw hA hbA hi hc hS hl hce hsl hP hD hC0 hC1 hC2 hC3 hC4 hC5 hn6 hTR hR0 hR1 hR2 hR3 hR4 hR5 hwc hwc0 hwc2 hnext
    · refine lv_tableIn (tgt := 246) hx hb dL_law_42 (by decide) (by decide) (off := 204) (by decide) (by decide) ?_
      exact lc_drop C0 hL hK hnw hA hbA hi hc hS hl hce hsl hP hD hC0 hC1 hC2 hC3 hC4 hC5 hn6 hTR hR0 hR1 hR2 hR3 hR4 hR5 hwc hwc0 hwc2 hnext
    · refine lv_tableIn (tgt := 280) hx hb dL_law_42 (by decide) (by decide) (off := 238) (by decide) (by decide) ?_
      exact lc_total C0 hL hK hnw hA hbA hi hc hS hl hce hsl hP hD hC0 hC1 hC2 hC3 hC4 hC5 hn6 hTR hR0 hR1 hR2 hR3 hR4 hR5 hwc hwc0 hwc2 hnext
    · refine lv_tableIn (tgt := 294) hx hb dL_law_42 (by decide) (by decide) (off := 252) (by decide) (by decide) ?_
      exact lc_sweep C0 hL hK hnw hA hbA hi hc hS hl hce hsl hP hD hC0 hC1 hC2 hC3 hC4 hC5 hn6 hTR hR0 hR1 hR2 hR3 hR4 hR5 hwc hwc0 hwc2 hnext
    · refine lv_tableIn (tgt := 307) hx hb dL_law_42 (by decide) (by decide) (off := 265) (by decide) (by decide) ?_
      exact lc_come C0 hL hK hnw hA hbA hi hc hS hl hce hsl hP hD hC0 hC1 hC2 hC3 hC4 hC5 hn6 hTR hR0 hR1 hR2 hR3 hR4 hR5 hwc hwc0 hwc2 hnext
    · refine lv_tableIn (tgt := 340) hx hb dL_law_42 (by decide) (by decide) (off := 298) (by decide) (by decide) ?_
      exact lc_leave C0 hL hK hnw hA hbA hi hc hS hl hce hsl hP hD hC0 hC1 hC2 hC3 hC4 hC5 hn6 hTR hR0 hR1 hR2 hR3 hR4 hR5 hwc hwc0 hwc2 hnext
    · refine lv_tableIn (tgt := 373) hx hb dL_law_42 (by decide) (by decide) (off := 331) (by decide) (by decide) ?_
      exact lc_comer C0 hL hK hnw hA hbA hi hc hS hl hce hsl hP hD hC0 hC1 hC2 hC3 hC4 hC5 hn6 hTR hR0 hR1 hR2 hR3 hR4 hR5 hwc hwc0 hwc2 hnext
    · refine lv_tableIn (tgt := 423) hx hb dL_law_42 (by decide) (by decide) (off := 381) (by decide) (by decide) ?_
      exact lc_retain C0 hL hK hnw hA hbA hi hc hS hl hce hsl hP hD hC0 hC1 hC2 hC3 hC4 hC5 hn6 hTR hR0 hR1 hR2 hR3 hR4 hR5 hwc hwc0 hwc2 hnext
    · refine lv_tableIn (tgt := 436) hx hb dL_law_42 (by decide) (by decide) (off := 394) (by decide) (by decide) ?_
      exact lc_rank C0 hL hK hnw hA hbA hi hc hS hl hce hsl hP hD hC0 hC1 hC2 hC3 hC4 hC5 hn6 hTR hR0 hR1 hR2 hR3 hR4 hR5 hwc hwc0 hwc2 hnext
    · refine lv_tableIn (tgt := 480) hx hb dL_law_42 (by decide) (by decide) (off := 438) (by decide) (by decide) ?_
      exact lc_near C0 hL hK hnw hA hbA hi hc hS hl hce hsl hP hD hC0 hC1 hC2 hC3 hC4 hC5 hn6 hTR hR0 hR1 hR2 hR3 hR4 hR5 hwc hwc0 hwc2 hnext
    · refine lv_tableIn (tgt := 566) hx hb dL_law_42 (by decide) (by decide) (off := 524) (by decide) (by decide) ?_
      exact lc_poll C0 hL hK hnw hA hbA hi hc hS hl hce hsl hP hD hC0 hC1 hC2 hC3 hC4 hC5 hn6 hTR hR0 hR1 hR2 hR3 hR4 hR5 hwc hwc0 hwc2 hnext
    · refine lv_tableIn (tgt := 606) hx hb dL_law_42 (by decide) (by decide) (off := 564) (by decide) (by decide) ?_
      exact lc_between C0 hL hK hnw hA hbA hi hc hS hl hce hsl hP hD hC0 hC1 hC2 hC3 hC4 hC5 hn6 hTR hR0 hR1 hR2 hR3 hR4 hR5 hwc hwc0 hwc2 hnext
    · refine lv_tableIn (tgt := 659) hx hb dL_law_42 (by decide) (by decide) (off := 617) (by decide) (by decide) ?_
      exact lc_sign C0 hL hK hnw hA hbA hi hc hS hl hce hsl hP hD hC0 hC1 hC2 hC3 hC4 hC5 hn6 hTR hR0 hR1 hR2 hR3 hR4 hR5 hwc hwc0 hwc2 hnext
    · refine lv_tableIn (tgt := 682) hx hb dL_law_42 (by decide) (by decide) (off := 640) (by decide) (by decide) ?_
      exact lc_erase C0 hL hK hnw hA hbA hi hc hS hl hce hsl hP hD hC0 hC1 hC2 hC3 hC4 hC5 hn6 hTR hR0 hR1 hR2 hR3 hR4 hR5 hwc hwc0 hwc2 hnext
    · refine lv_tableIn (tgt := 695) hx hb dL_law_42 (by decide) (by decide) (off := 653) (by decide) (by decide) ?_
      exact lc_line C0 hL hK hnw hA hbA hi hc hS hl hce hsl hP hD hC0 hC1 hC2 hC3 hC4 hC5 hn6 hTR hR0 hR1 hR2 hR3 hR4 hR5 hwc hwc0 hwc2 hnext
    · refine lv_tableIn (tgt := 718) hx hb dL_law_42 (by decide) (by decide) (off := 676) (by decide) (by decide) ?_
      exact lc_read C0 hL hK hnw hA hbA hi hc hS hl hce hsl hP hD hC0 hC1 hC2 hC3 hC4 hC5 hn6 hTR hR0 hR1 hR2 hR3 hR4 hR5 hwc hwc0 hwc2 hnext
    · refine lv_tableIn (tgt := 742) hx hb dL_law_42 (by decide) (by decide) (off := 700) (by decide) (by decide) ?_
      exact lc_next C0 hL hK hnw hA hbA hi hc hS hl hce hsl hP hD hC0 hC1 hC2 hC3 hC4 hC5 hn6 hTR hR0 hR1 hR2 hR3 hR4 hR5 hwc hwc0 hwc2 hnext
    · refine lv_tableIn (tgt := 755) hx hb dL_law_42 (by decide) (by decide) (off := 713) (by decide) (by decide) ?_
      exact lc_letter C0 hL hK hnw hA hbA hi hc hS hl hce hsl hP hD hC0 hC1 hC2 hC3 hC4 hC5 hn6 hTR hR0 hR1 hR2 hR3 hR4 hR5 hwc hwc0 hwc2 hnext
    · refine lv_tableIn (tgt := 778) hx hb dL_law_42 (by decide) (by decide) (off := 736) (by decide) (by decide) ?_
      exact lc_forget C0 hL hK hnw hA hbA hi hc hS hl hce hsl hP hD hC0 hC1 hC2 hC3 hC4 hC5 hn6 hTR hR0 hR1 hR2 hR3 hR4 hR5 hwc hwc0 hwc2 hnext
    · refine lv_tableIn (tgt := 791) hx hb dL_law_42 (by decide) (by decide) (off := 749) (by decide) (by decide) ?_
      exact lc_mark C0 hL hK hnw hA hbA hi hc hS hl hce hsl hP hD hC0 hC1 hC2 hC3 hC4 hC5 hn6 hTR hR0 hR1 hR2 hR3 hR4 hR5 hwc hwc0 hwc2 hnext
    · refine lv_tableIn (tgt := 824) hx hb dL_law_42 (by decide) (by decide) (off := 782) (by decide) (by decide) ?_
      exact lc_around C0 hL hK hnw hA hbA hi hc hS hl hce hsl hP hD hC0 hC1 hC2 hC3 hC4 hC5 hn6 hTR hR0 hR1 hR2 hR3 hR4 hR5 hwc hwc0 hwc2 hnext
    · refine lv_tableIn (tgt := 857) hx hb dL_law_42 (by decide) (by decide) (off := 815) (by decide) (by decide) ?_
      exact lc_step C0 hL hK hnw hA hbA hi hc hS hl hce hsl hP hD hC0 hC1 hC2 hC3 hC4 hC5 hn6 hTR hR0 hR1 hR2 hR3 hR4 hR5 hwc hwc0 hwc2 hnext
    · refine lv_tableIn (tgt := 870) hx hb dL_law_42 (by decide) (by decide) (off := 828) (by decide) (by decide) ?_
      exact lc_put C0 hL hK hnw hA hbA hi hc hS hl hce hsl hP hD hC0 hC1 hC2 hC3 hC4 hC5 hn6 hTR hR0 hR1 hR2 hR3 hR4 hR5 hwc hwc0 hwc2 hnext
    · refine lv_tableIn (tgt := 914) hx hb dL_law_42 (by decide) (by decide) (off := 872) (by decide) (by decide) ?_
      exact lc_get C0 hL hK hnw hA hbA hi hc hS hl hce hsl hP hD hC0 hC1 hC2 hC3 hC4 hC5 hn6 hTR hR0 hR1 hR2 hR3 hR4 hR5 hwc hwc0 hwc2 hnext
    · refine lv_tableIn (tgt := 948) hx hb dL_law_42 (by decide) (by decide) (off := 906) (by decide) (by decide) ?_
      exact lc_end C0 hL hK hnw hA hbA hi hc hS hl hce hsl hP hD hC0 hC1 hC2 hC3 hC4 hC5 hn6 hTR hR0 hR1 hR2 hR3 hR4 hR5 hwc hwc0 hwc2 hnext
    · refine lv_tableIn (tgt := 972) hx hb dL_law_42 (by decide) (by decide) (off := 930) (by decide) (by decide) ?_
      exact lc_cut C0 hL hK hnw hA hbA hi hc hS hl hce hsl hP hD hC0 hC1 hC2 hC3 hC4 hC5 hn6 hTR hR0 hR1 hR2 hR3 hR4 hR5 hwc hwc0 hwc2 hnext
    · refine lv_tableIn (tgt := 1005) hx hb dL_law_42 (by decide) (by decide) (off := 963) (by decide) (by decide) ?_
      exact lc_size C0 hL hK hnw hA hbA hi hc hS hl hce hsl hP hD hC0 hC1 hC2 hC3 hC4 hC5 hn6 hTR hR0 hR1 hR2 hR3 hR4 hR5 hwc hwc0 hwc2 hnext
    · refine lv_tableOut (tgt := 1028) hx hb dL_law_42 (Or.inr (by decide)) (by decide) ?_
      exact hnext _ _ _ _ ⟨ad, nt, g, f, wv, hP, hD, hC0.mono (Nat.le_succ c), hC1.mono (Nat.le_succ c), hC2.mono (Nat.le_succ c), hC3.mono (Nat.le_succ c), hC4.mono (Nat.le_succ c), hC5.mono (Nat.le_succ c), hn6, hTR, hR0, hR1, hR2, hR3, hR4, hR5, hwc, hwc0, hwc2⟩ hS (by omega) (by omega)
    · refine lv_tableOut (tgt := 1028) hx hb dL_law_42 (Or.inr (by decide)) (by decide) ?_
      exact hnext _ _ _ _ ⟨ad, nt, g, f, wv, hP, hD, hC0.mono (Nat.le_succ c), hC1.mono (Nat.le_succ c), hC2.mono (Nat.le_succ c), hC3.mono (Nat.le_succ c), hC4.mono (Nat.le_succ c), hC5.mono (Nat.le_succ c), hn6, hTR, hR0, hR1, hR2, hR3, hR4, hR5, hwc, hwc0, hwc2⟩ hS (by omega) (by omega)
    · refine lv_tableOut (tgt := 1028) hx hb dL_law_42 (Or.inr (by decide)) (by decide) ?_
      exact hnext _ _ _ _ ⟨ad, nt, g, f, wv, hP, hD, hC0.mono (Nat.le_succ c), hC1.mono (Nat.le_succ c), hC2.mono (Nat.le_succ c), hC3.mono (Nat.le_succ c), hC4.mono (Nat.le_succ c), hC5.mono (Nat.le_succ c), hn6, hTR, hR0, hR1, hR2, hR3, hR4, hR5, hwc, hwc0, hwc2⟩ hS (by omega) (by omega)
    · refine lv_tableOut (tgt := 1028) hx hb dL_law_42 (Or.inr (by decide)) (by decide) ?_
      exact hnext _ _ _ _ ⟨ad, nt, g, f, wv, hP, hD, hC0.mono (Nat.le_succ c), hC1.mono (Nat.le_succ c), hC2.mono (Nat.le_succ c), hC3.mono (Nat.le_succ c), hC4.mono (Nat.le_succ c), hC5.mono (Nat.le_succ c), hn6, hTR, hR0, hR1, hR2, hR3, hR4, hR5, hwc, hwc0, hwc2⟩ hS (by omega) (by omega)

set_option maxHeartbeats 8000000 in
set_option maxRecDepth 100000 in
/-- THE LAW, from its entry -/
theorem whole_start {p : Program} {e : Env} {s : State} {m : MethodId} {below : List Frame} {meth : Method} {c : Code} (l : Launch) {b L : Nat} {xs : Nat → Int32} (hL : L ≤ 241) (C0 : lw_At p s m meth c b L xs) : W p l e room_1 s m #[Value.ref b] below meth c s.heap [] 0 0 (lw_Z below #[Value.ref b] s) (entryFrame m ([Value.ref b] : List Value).toArray 4) := by
  obtain ⟨hx, hb, hr, hml, hown, hts0, hX, hbl, hlocks, hgv⟩ := id C0
  have hts : ∀ w ∈ wsL_law, w.before #[Value.ref b] s = true := fun w h => hts0 w (wsL_law_in w h)
  have hA : ∀ q : Nat, s.heap.size ≤ q → (fun q : Nat => s.heap.size ≤ q) q := fun _ h => h
  have hbA : ¬ (fun q : Nat => s.heap.size ≤ q) b := Nat.not_le.mpr hbl
  have hnw : va_Nw nestW s := va_Nw.of (A := #[Value.ref b]) rfl (hts0 nestW (List.mem_of_getElem? (i := 330) (by decide +kernel)))
  obtain ⟨cl0, iS0, hKn0⟩ := u_known (C := RX0) (T := TX0) (N := 3) (n := 3) hts inlX0 (hts (.instantiable RX0 3) (by decide +kernel))
  obtain ⟨cl1, iS1, hKn1⟩ := u_known (C := RX1) (T := TX1) (N := 9) (n := 9) hts inlX1 (hts (.instantiable RX1 9) (by decide +kernel))
  obtain ⟨cl2, iS2, hKn2⟩ := u_known (C := RX2) (T := TX2) (N := 4) (n := 4) hts inlX2 (hts (.instantiable RX2 4) (by decide +kernel))
  obtain ⟨cl3, iS3, hKn3⟩ := u_known (C := RX3) (T := TX3) (N := 10) (n := 10) hts inlX3 (hts (.instantiable RX3 10) (by decide +kernel))
  obtain ⟨cI, kI, compI, hfI, hkI, hkdI⟩ := Cond.arrayClass_spec (hts (.arrayClass .int) (by decide +kernel))
  obtain ⟨cJ, kJ, compJ, hfJ, hkJ, hkdJ⟩ := Cond.arrayClass_spec (hts (.arrayClass .long) (by decide +kernel))
  obtain ⟨D, hKc⟩ : ∃ (D : va_G), ∀ (k : Nat) (q : vw_C), vwCl[k]? = some q → u_Kn s q.1 q.2.1 q.2.2 (D.1 k) (D.2 k) := by
    refine ⟨(fun k => if k = 0 then cl0 else if k = 1 then cl1 else if k = 2 then cl2 else cl3, fun k => if k = 0 then iS0 else if k = 1 then iS1 else if k = 2 then iS2 else iS3), ?_⟩
    intro k q hq
    match k, hq with
    | 0, hq => cases hq; exact hKn0
    | 1, hq => cases hq; exact hKn1
    | 2, hq => cases hq; exact hKn2
    | 3, hq => cases hq; exact hKn3
    | k + 4, hq => simp [vwCl] at hq
  have hS : va_S (fun q : Nat => s.heap.size ≤ q) s.heap s.heap [] := va_S.rf
  have hK : va_K D vwCl (tys cI cJ) s := by
    refine ⟨hKc, fun k q h => ?_⟩
    match k, h with
    | 0, h => cases h; exact ⟨fun n z => ⟨fun k h => (by cases h), kI, hkI, compI, hkdI⟩, hfI⟩
    | 1, h => cases h; exact ⟨fun n z => ⟨fun k h => (by cases h), kJ, hkJ, compJ, hkdJ⟩, hfJ⟩
    | k + 2, h => simp [tys] at h
  have hP : va_P D vwCl [] s.heap := fun k q h => by simp at h
  have hD : va_D (fun q : Nat => s.heap.size ≤ q) [] := ⟨fun i j p q h => by simp at h, fun k q h => by simp at h⟩
  have lk2 := hts (.classLink RL 7 RX1) (by decide +kernel)
  have lk3 := hts (.instantiable RX1 9) (by decide +kernel)
  have lk4 := hts (.initialized RX1) (by decide +kernel)
  have lk5 := hts (.methodLink RL 15 yX1_init) (by decide +kernel)
  have lk6 := hts (.instanceMethod yX1_init) (by decide +kernel)
  have lk7 := hts (.classLink RL 18 RX3) (by decide +kernel)
  have lk8 := hts (.instantiable RX3 10) (by decide +kernel)
  have lk9 := hts (.initialized RX3) (by decide +kernel)
  have lk10 := hts (.methodLink RL 20 yX3_init) (by decide +kernel)
  have lk11 := hts (.instanceMethod yX3_init) (by decide +kernel)
  have hl := lv_entry ([.ref b]) (n := 4) (Nat.le_of_ble_eq_true rfl)
  rw [lg_entry_eq]
  generalize (lg_sl ([.ref b]) ++ List.replicate (4 - (lg_sl ([.ref b])).length) Slot.unset).toArray = ls at hl ⊢
  have hl : lv_has ls 4 [(0, .ref b)] := hl
  refine va_new (ci := 1) (fs := [.null, .null, .null, .null, .null, .null, .null, .long 0, .long 0]) (C := RX1) (T := TX1) (N := 9) hx hb hts inlX1 tyX1 tyX1_ok hown lk2 lk3 lk4 hK hP hD hS hA rfl (by decide) (by show _ ≤ 600000; omega) (by show _ ≤ 7302249; omega) dL_law_0 (fun q_1 H hP hD hS => ?_)
  have hP : va_P D vwCl [(q_1, .inr (1, [.null, .null, .null, .null, .null, .null, .null, .long 0, .long 0]))] H := hP
  have hD : va_D (fun q : Nat => s.heap.size ≤ q) [(q_1, .inr (1, [.null, .null, .null, .null, .null, .null, .null, .long 0, .long 0]))] := hD
  refine lv_dup hx hb dL_law_3 rfl ?_
  refine lv_aload_n hx hb dL_law_4 rfl (lv_at hl 0 rfl) ?_
  refine lv_iconst (v := nI 0) hx hb dL_law_5 (by decide) ?_
  refine vp_callSi (va_Run.run (va_runS (As := [.ref b, .int (nI 0)]) (rest := [.ref q_1, .ref q_1]) ⟨hx, hb, hml, hown, hts⟩ (c_L_cell l b L xs hL) (va_cwS 2 hts gL_law_L_cell rfl rfl rfl (by decide +kernel) ⟨Nat.le_of_ble_eq_true rfl, Nat.le_of_ble_eq_true rfl⟩) ⟨xP_blind, fun U hU hW => ⟨rfl, by show va_X b L xs U U.heap; rw [hU]; exact va_X.moved hW.alike (hX.kept (hS.2.1 b hbl hbA))⟩⟩ rfl rfl hl.1 rfl (lv_room (Nat.le_of_ble_eq_true rfl)) dL_law_6 ⟨by show _ ≤ 600000; omega, by show _ ≤ 7302249; omega⟩)) (fun r_2 _ => ?_)
  have hFc := va_free (wc := [(q_1, .inr (1, [.null, .null, .null, .null, .null, .null, .null, .long 0, .long 0]))]) hD hS hA [0] rfl
  refine va_callv (va_runI (As := [.int r_2]) (rest := [.ref q_1]) ⟨hx, hb, hml, hown, hts⟩ (c_X1_init l D cI cJ q_1 r_2 H.size) (cwI 1 hts gL_law_X1_init rfl rfl rfl lk4 lk5 lk6 rfl (by decide +kernel) ⟨Nat.le_of_ble_eq_true rfl, Nat.le_of_ble_eq_true rfl⟩) (z_preSw hK hP hD [0] (by decide) rfl rfl) rfl rfl hl.1 rfl (lv_room (Nat.le_of_ble_eq_true rfl)) dL_law_9 ⟨by show _ ≤ 600000; omega, by show _ ≤ 7302249; omega⟩) hS (fun q _ h => hFc q h) hFc (fun uX t H1 locs ht hvm hrX hB hzz1 hkk1 hS => ?_)
  obtain ⟨s0_X, ka0_X, va0_X, s1_X, ka1_X, va1_X, s2_X, ka2_X, va2_X, s3_X, ka3_X, va3_X, s4_X, ka4_X, va4_X, s5_X, ka5_X, va5_X, s6_X, ka6_X, va6_X⟩ := uX
  obtain ⟨hP1, hK1, hD1⟩ := hB
  rw [ht] at hP1
  try dsimp only at hrX
  obtain ⟨hP, hD⟩ := va_join (wr := []) (w1 := [(q_1, .inr (1, [.ref s0_X, .ref s1_X, .ref s2_X, .ref s3_X, .ref s4_X, .ref s5_X, .ref s6_X, .long 0, .long 0])), (s0_X, .inr (0, [.ref ka0_X, .ref va0_X, .int (nI 0)])), (ka0_X, .inl (cJ, 512, .inr (.inl (fun _ => 0)))), (va0_X, .inl (cJ, 512, .inr (.inl (fun _ => 0)))), (s1_X, .inr (0, [.ref ka1_X, .ref va1_X, .int (nI 0)])), (ka1_X, .inl (cJ, 512, .inr (.inl (fun _ => 0)))), (va1_X, .inl (cJ, 512, .inr (.inl (fun _ => 0)))), (s2_X, .inr (0, [.ref ka2_X, .ref va2_X, .int (nI 0)])), (ka2_X, .inl (cJ, 512, .inr (.inl (fun _ => 0)))), (va2_X, .inl (cJ, 512, .inr (.inl (fun _ => 0)))), (s3_X, .inr (0, [.ref ka3_X, .ref va3_X, .int (nI 0)])), (ka3_X, .inl (cJ, 512, .inr (.inl (fun _ => 0)))), (va3_X, .inl (cJ, 512, .inr (.inl (fun _ => 0)))), (s4_X, .inr (0, [.ref ka4_X, .ref va4_X, .int (nI 0)])), (ka4_X, .inl (cJ, 512, .inr (.inl (fun _ => 0)))), (va4_X, .inl (cJ, 512, .inr (.inl (fun _ => 0)))), (s5_X, .inr (0, [.ref ka5_X, .ref va5_X, .int (nI 0)])), (ka5_X, .inl (cJ, 752, .inr (.inl (fun _ => 0)))), (va5_X, .inl (cJ, 752, .inr (.inl (fun _ => 0)))), (s6_X, .inr (0, [.ref ka6_X, .ref va6_X, .int (nI 0)])), (ka6_X, .inl (cJ, 752, .inr (.inl (fun _ => 0)))), (va6_X, .inl (cJ, 752, .inr (.inl (fun _ => 0))))]) hP hD [0] [] rfl rfl (by decide) (by decide) hkk1 hFc hP1 hD1
  generalize H1 = H at hP hS ⊢
  have hP : va_P D vwCl [(q_1, .inr (1, [.ref s0_X, .ref s1_X, .ref s2_X, .ref s3_X, .ref s4_X, .ref s5_X, .ref s6_X, .long 0, .long 0])), (s0_X, .inr (0, [.ref ka0_X, .ref va0_X, .int (nI 0)])), (ka0_X, .inl (cJ, 512, .inr (.inl (fun _ => 0)))), (va0_X, .inl (cJ, 512, .inr (.inl (fun _ => 0)))), (s1_X, .inr (0, [.ref ka1_X, .ref va1_X, .int (nI 0)])), (ka1_X, .inl (cJ, 512, .inr (.inl (fun _ => 0)))), (va1_X, .inl (cJ, 512, .inr (.inl (fun _ => 0)))), (s2_X, .inr (0, [.ref ka2_X, .ref va2_X, .int (nI 0)])), (ka2_X, .inl (cJ, 512, .inr (.inl (fun _ => 0)))), (va2_X, .inl (cJ, 512, .inr (.inl (fun _ => 0)))), (s3_X, .inr (0, [.ref ka3_X, .ref va3_X, .int (nI 0)])), (ka3_X, .inl (cJ, 512, .inr (.inl (fun _ => 0)))), (va3_X, .inl (cJ, 512, .inr (.inl (fun _ => 0)))), (s4_X, .inr (0, [.ref ka4_X, .ref va4_X, .int (nI 0)])), (ka4_X, .inl (cJ, 512, .inr (.inl (fun _ => 0)))), (va4_X, .inl (cJ, 512, .inr (.inl (fun _ => 0)))), (s5_X, .inr (0, [.ref ka5_X, .ref va5_X, .int (nI 0)])), (ka5_X, .inl (cJ, 752, .inr (.inl (fun _ => 0)))), (va5_X, .inl (cJ, 752, .inr (.inl (fun _ => 0)))), (s6_X, .inr (0, [.ref ka6_X, .ref va6_X, .int (nI 0)])), (ka6_X, .inl (cJ, 752, .inr (.inl (fun _ => 0)))), (va6_X, .inl (cJ, 752, .inr (.inl (fun _ => 0))))] H := hP.sub [0, 1, 2, 3, 4, 5, 6, 7, 8, 9, 10, 11, 12, 13, 14, 15, 16, 17, 18, 19, 20, 21] rfl
  have hD : va_D (fun q : Nat => s.heap.size ≤ q) [(q_1, .inr (1, [.ref s0_X, .ref s1_X, .ref s2_X, .ref s3_X, .ref s4_X, .ref s5_X, .ref s6_X, .long 0, .long 0])), (s0_X, .inr (0, [.ref ka0_X, .ref va0_X, .int (nI 0)])), (ka0_X, .inl (cJ, 512, .inr (.inl (fun _ => 0)))), (va0_X, .inl (cJ, 512, .inr (.inl (fun _ => 0)))), (s1_X, .inr (0, [.ref ka1_X, .ref va1_X, .int (nI 0)])), (ka1_X, .inl (cJ, 512, .inr (.inl (fun _ => 0)))), (va1_X, .inl (cJ, 512, .inr (.inl (fun _ => 0)))), (s2_X, .inr (0, [.ref ka2_X, .ref va2_X, .int (nI 0)])), (ka2_X, .inl (cJ, 512, .inr (.inl (fun _ => 0)))), (va2_X, .inl (cJ, 512, .inr (.inl (fun _ => 0)))), (s3_X, .inr (0, [.ref ka3_X, .ref va3_X, .int (nI 0)])), (ka3_X, .inl (cJ, 512, .inr (.inl (fun _ => 0)))), (va3_X, .inl (cJ, 512, .inr (.inl (fun _ => 0)))), (s4_X, .inr (0, [.ref ka4_X, .ref va4_X, .int (nI 0)])), (ka4_X, .inl (cJ, 512, .inr (.inl (fun _ => 0)))), (va4_X, .inl (cJ, 512, .inr (.inl (fun _ => 0)))), (s5_X, .inr (0, [.ref ka5_X, .ref va5_X, .int (nI 0)])), (ka5_X, .inl (cJ, 752, .inr (.inl (fun _ => 0)))), (va5_X, .inl (cJ, 752, .inr (.inl (fun _ => 0)))), (s6_X, .inr (0, [.ref ka6_X, .ref va6_X, .int (nI 0)])), (ka6_X, .inl (cJ, 752, .inr (.inl (fun _ => 0)))), (va6_X, .inl (cJ, 752, .inr (.inl (fun _ => 0))))] := hD.sub [0, 1, 2, 3, 4, 5, 6, 7, 8, 9, 10, 11, 12, 13, 14, 15, 16, 17, 18, 19, 20, 21] (by decide) rfl
  refine lv_astore_n (lv' := [(1, .ref q_1), (0, .ref b)]) hx hb dL_law_12 rfl hl (by decide) rfl (fun ls hl => ?_)
  refine va_new (ci := 3) (fs := [.null, .null, .null, .null, .null, .null, .null, .null, .int (nI 0), .int (nI 0)]) (C := RX3) (T := TX3) (N := 10) hx hb hts inlX3 tyX3 tyX3_ok hown lk7 lk8 lk9 hK hP hD hS hA rfl (by decide) (by show _ ≤ 600000; omega) (by show _ ≤ 7302249; omega) dL_law_13 (fun q_3 H hP hD hS => ?_)
  have hP : va_P D vwCl [(q_1, .inr (1, [.ref s0_X, .ref s1_X, .ref s2_X, .ref s3_X, .ref s4_X, .ref s5_X, .ref s6_X, .long 0, .long 0])), (s0_X, .inr (0, [.ref ka0_X, .ref va0_X, .int (nI 0)])), (ka0_X, .inl (cJ, 512, .inr (.inl (fun _ => 0)))), (va0_X, .inl (cJ, 512, .inr (.inl (fun _ => 0)))), (s1_X, .inr (0, [.ref ka1_X, .ref va1_X, .int (nI 0)])), (ka1_X, .inl (cJ, 512, .inr (.inl (fun _ => 0)))), (va1_X, .inl (cJ, 512, .inr (.inl (fun _ => 0)))), (s2_X, .inr (0, [.ref ka2_X, .ref va2_X, .int (nI 0)])), (ka2_X, .inl (cJ, 512, .inr (.inl (fun _ => 0)))), (va2_X, .inl (cJ, 512, .inr (.inl (fun _ => 0)))), (s3_X, .inr (0, [.ref ka3_X, .ref va3_X, .int (nI 0)])), (ka3_X, .inl (cJ, 512, .inr (.inl (fun _ => 0)))), (va3_X, .inl (cJ, 512, .inr (.inl (fun _ => 0)))), (s4_X, .inr (0, [.ref ka4_X, .ref va4_X, .int (nI 0)])), (ka4_X, .inl (cJ, 512, .inr (.inl (fun _ => 0)))), (va4_X, .inl (cJ, 512, .inr (.inl (fun _ => 0)))), (s5_X, .inr (0, [.ref ka5_X, .ref va5_X, .int (nI 0)])), (ka5_X, .inl (cJ, 752, .inr (.inl (fun _ => 0)))), (va5_X, .inl (cJ, 752, .inr (.inl (fun _ => 0)))), (s6_X, .inr (0, [.ref ka6_X, .ref va6_X, .int (nI 0)])), (ka6_X, .inl (cJ, 752, .inr (.inl (fun _ => 0)))), (va6_X, .inl (cJ, 752, .inr (.inl (fun _ => 0)))), (q_3, .inr (3, [.null, .null, .null, .null, .null, .null, .null, .null, .int (nI 0), .int (nI 0)]))] H := hP
  have hD : va_D (fun q : Nat => s.heap.size ≤ q) [(q_1, .inr (1, [.ref s0_X, .ref s1_X, .ref s2_X, .ref s3_X, .ref s4_X, .ref s5_X, .ref s6_X, .long 0, .long 0])), (s0_X, .inr (0, [.ref ka0_X, .ref va0_X, .int (nI 0)])), (ka0_X, .inl (cJ, 512, .inr (.inl (fun _ => 0)))), (va0_X, .inl (cJ, 512, .inr (.inl (fun _ => 0)))), (s1_X, .inr (0, [.ref ka1_X, .ref va1_X, .int (nI 0)])), (ka1_X, .inl (cJ, 512, .inr (.inl (fun _ => 0)))), (va1_X, .inl (cJ, 512, .inr (.inl (fun _ => 0)))), (s2_X, .inr (0, [.ref ka2_X, .ref va2_X, .int (nI 0)])), (ka2_X, .inl (cJ, 512, .inr (.inl (fun _ => 0)))), (va2_X, .inl (cJ, 512, .inr (.inl (fun _ => 0)))), (s3_X, .inr (0, [.ref ka3_X, .ref va3_X, .int (nI 0)])), (ka3_X, .inl (cJ, 512, .inr (.inl (fun _ => 0)))), (va3_X, .inl (cJ, 512, .inr (.inl (fun _ => 0)))), (s4_X, .inr (0, [.ref ka4_X, .ref va4_X, .int (nI 0)])), (ka4_X, .inl (cJ, 512, .inr (.inl (fun _ => 0)))), (va4_X, .inl (cJ, 512, .inr (.inl (fun _ => 0)))), (s5_X, .inr (0, [.ref ka5_X, .ref va5_X, .int (nI 0)])), (ka5_X, .inl (cJ, 752, .inr (.inl (fun _ => 0)))), (va5_X, .inl (cJ, 752, .inr (.inl (fun _ => 0)))), (s6_X, .inr (0, [.ref ka6_X, .ref va6_X, .int (nI 0)])), (ka6_X, .inl (cJ, 752, .inr (.inl (fun _ => 0)))), (va6_X, .inl (cJ, 752, .inr (.inl (fun _ => 0)))), (q_3, .inr (3, [.null, .null, .null, .null, .null, .null, .null, .null, .int (nI 0), .int (nI 0)]))] := hD
  refine lv_dup hx hb dL_law_16 rfl ?_
  refine lv_aload_n hx hb dL_law_17 rfl (lv_at hl 1 rfl) ?_
  refine lv_iconst (v := nI 0) hx hb dL_law_18 (by decide) ?_
  refine vp_callSi (va_Run.run (va_runS (As := [.ref b, .int (nI 0)]) (rest := [.ref q_3, .ref q_3]) ⟨hx, hb, hml, hown, hts⟩ (c_L_cell l b L xs hL) (va_cwS 2 hts gL_law_L_cell rfl rfl rfl (by decide +kernel) ⟨Nat.le_of_ble_eq_true rfl, Nat.le_of_ble_eq_true rfl⟩) ⟨xP_blind, fun U hU hW => ⟨rfl, by show va_X b L xs U U.heap; rw [hU]; exact va_X.moved hW.alike (hX.kept (hS.2.1 b hbl hbA))⟩⟩ rfl rfl hl.1 rfl (lv_room (Nat.le_of_ble_eq_true rfl)) dL_law_19 ⟨by show _ ≤ 600000; omega, by show _ ≤ 7302249; omega⟩)) (fun r_4 _ => ?_)
  have hFc := va_free (wc := [(q_3, .inr (3, [.null, .null, .null, .null, .null, .null, .null, .null, .int (nI 0), .int (nI 0)]))]) hD hS hA [22] rfl
  refine va_callv (va_runI (As := [.int r_4]) (rest := [.ref q_3]) ⟨hx, hb, hml, hown, hts⟩ (c_X3_init l D cI cJ q_3 r_4 H.size) (cwI 1 hts gL_law_X3_init rfl rfl rfl lk9 lk10 lk11 rfl (by decide +kernel) ⟨Nat.le_of_ble_eq_true rfl, Nat.le_of_ble_eq_true rfl⟩) (z_preSn hK hP hD hnw [22] (by decide) rfl rfl) rfl rfl hl.1 rfl (lv_room (Nat.le_of_ble_eq_true rfl)) dL_law_22 ⟨by show _ ≤ 600000; omega, by show _ ≤ 7302249; omega⟩) hS (fun q _ h => hFc q h) hFc (fun uM t H1 locs ht hvm hrM hB hzz1 hkk1 hS => ?_)
  obtain ⟨r0_M, a00_M, b00_M, v00_M, r1_M, a01_M, b01_M, v01_M, r2_M, a02_M, b02_M, v02_M, r3_M, a03_M, b03_M, v03_M, r4_M, a04_M, b04_M, v04_M, r5_M, a05_M, b05_M, v05_M, wd_M, tp_M⟩ := uM
  obtain ⟨hP1, hK1, hD1⟩ := hB
  rw [ht] at hP1
  try dsimp only at hrM
  obtain ⟨hP, hD⟩ := va_join (wr := [(q_1, .inr (1, [.ref s0_X, .ref s1_X, .ref s2_X, .ref s3_X, .ref s4_X, .ref s5_X, .ref s6_X, .long 0, .long 0])), (s0_X, .inr (0, [.ref ka0_X, .ref va0_X, .int (nI 0)])), (ka0_X, .inl (cJ, 512, .inr (.inl (fun _ => 0)))), (va0_X, .inl (cJ, 512, .inr (.inl (fun _ => 0)))), (s1_X, .inr (0, [.ref ka1_X, .ref va1_X, .int (nI 0)])), (ka1_X, .inl (cJ, 512, .inr (.inl (fun _ => 0)))), (va1_X, .inl (cJ, 512, .inr (.inl (fun _ => 0)))), (s2_X, .inr (0, [.ref ka2_X, .ref va2_X, .int (nI 0)])), (ka2_X, .inl (cJ, 512, .inr (.inl (fun _ => 0)))), (va2_X, .inl (cJ, 512, .inr (.inl (fun _ => 0)))), (s3_X, .inr (0, [.ref ka3_X, .ref va3_X, .int (nI 0)])), (ka3_X, .inl (cJ, 512, .inr (.inl (fun _ => 0)))), (va3_X, .inl (cJ, 512, .inr (.inl (fun _ => 0)))), (s4_X, .inr (0, [.ref ka4_X, .ref va4_X, .int (nI 0)])), (ka4_X, .inl (cJ, 512, .inr (.inl (fun _ => 0)))), (va4_X, .inl (cJ, 512, .inr (.inl (fun _ => 0)))), (s5_X, .inr (0, [.ref ka5_X, .ref va5_X, .int (nI 0)])), (ka5_X, .inl (cJ, 752, .inr (.inl (fun _ => 0)))), (va5_X, .inl (cJ, 752, .inr (.inl (fun _ => 0)))), (s6_X, .inr (0, [.ref ka6_X, .ref va6_X, .int (nI 0)])), (ka6_X, .inl (cJ, 752, .inr (.inl (fun _ => 0)))), (va6_X, .inl (cJ, 752, .inr (.inl (fun _ => 0))))]) (w1 := [(q_3, .inr (3, [.ref r0_M, .ref r1_M, .ref r2_M, .ref r3_M, .ref r4_M, .ref r5_M, .ref wd_M, .ref tp_M, .int (nI 0), .int (nI 0)])), (wd_M, .inl (cI, 192, .inl (fun _ => 0))), (tp_M, .inl (cI, 12, .inl (fun _ => 0))), (r0_M, .inr (2, [.ref a00_M, .ref b00_M, .ref v00_M, .int (nI 0)])), (a00_M, .inl (cI, 16, .inl (fun _ => 0))), (b00_M, .inl (cI, 16, .inl (fun _ => 0))), (v00_M, .inl (cJ, 16, .inr (.inl (fun _ => 0)))), (r1_M, .inr (2, [.ref a01_M, .ref b01_M, .ref v01_M, .int (nI 0)])), (a01_M, .inl (cI, 16, .inl (fun _ => 0))), (b01_M, .inl (cI, 16, .inl (fun _ => 0))), (v01_M, .inl (cJ, 16, .inr (.inl (fun _ => 0)))), (r2_M, .inr (2, [.ref a02_M, .ref b02_M, .ref v02_M, .int (nI 0)])), (a02_M, .inl (cI, 16, .inl (fun _ => 0))), (b02_M, .inl (cI, 16, .inl (fun _ => 0))), (v02_M, .inl (cJ, 16, .inr (.inl (fun _ => 0)))), (r3_M, .inr (2, [.ref a03_M, .ref b03_M, .ref v03_M, .int (nI 0)])), (a03_M, .inl (cI, 16, .inl (fun _ => 0))), (b03_M, .inl (cI, 16, .inl (fun _ => 0))), (v03_M, .inl (cJ, 16, .inr (.inl (fun _ => 0)))), (r4_M, .inr (2, [.ref a04_M, .ref b04_M, .ref v04_M, .int (nI 0)])), (a04_M, .inl (cI, 16, .inl (fun _ => 0))), (b04_M, .inl (cI, 16, .inl (fun _ => 0))), (v04_M, .inl (cJ, 16, .inr (.inl (fun _ => 0)))), (r5_M, .inr (2, [.ref a05_M, .ref b05_M, .ref v05_M, .int (nI 0)])), (a05_M, .inl (cI, 16, .inl (fun _ => 0))), (b05_M, .inl (cI, 16, .inl (fun _ => 0))), (v05_M, .inl (cJ, 16, .inr (.inl (fun _ => 0))))]) hP hD [22] [0, 1, 2, 3, 4, 5, 6, 7, 8, 9, 10, 11, 12, 13, 14, 15, 16, 17, 18, 19, 20, 21] rfl rfl (by decide) (by decide) hkk1 hFc hP1 hD1
  generalize H1 = H at hP hS ⊢
  have hP : va_P D vwCl [(q_1, .inr (1, [.ref s0_X, .ref s1_X, .ref s2_X, .ref s3_X, .ref s4_X, .ref s5_X, .ref s6_X, .long 0, .long 0])), (s0_X, .inr (0, [.ref ka0_X, .ref va0_X, .int (nI 0)])), (ka0_X, .inl (cJ, 512, .inr (.inl (fun _ => 0)))), (va0_X, .inl (cJ, 512, .inr (.inl (fun _ => 0)))), (s1_X, .inr (0, [.ref ka1_X, .ref va1_X, .int (nI 0)])), (ka1_X, .inl (cJ, 512, .inr (.inl (fun _ => 0)))), (va1_X, .inl (cJ, 512, .inr (.inl (fun _ => 0)))), (s2_X, .inr (0, [.ref ka2_X, .ref va2_X, .int (nI 0)])), (ka2_X, .inl (cJ, 512, .inr (.inl (fun _ => 0)))), (va2_X, .inl (cJ, 512, .inr (.inl (fun _ => 0)))), (s3_X, .inr (0, [.ref ka3_X, .ref va3_X, .int (nI 0)])), (ka3_X, .inl (cJ, 512, .inr (.inl (fun _ => 0)))), (va3_X, .inl (cJ, 512, .inr (.inl (fun _ => 0)))), (s4_X, .inr (0, [.ref ka4_X, .ref va4_X, .int (nI 0)])), (ka4_X, .inl (cJ, 512, .inr (.inl (fun _ => 0)))), (va4_X, .inl (cJ, 512, .inr (.inl (fun _ => 0)))), (s5_X, .inr (0, [.ref ka5_X, .ref va5_X, .int (nI 0)])), (ka5_X, .inl (cJ, 752, .inr (.inl (fun _ => 0)))), (va5_X, .inl (cJ, 752, .inr (.inl (fun _ => 0)))), (s6_X, .inr (0, [.ref ka6_X, .ref va6_X, .int (nI 0)])), (ka6_X, .inl (cJ, 752, .inr (.inl (fun _ => 0)))), (va6_X, .inl (cJ, 752, .inr (.inl (fun _ => 0)))), (q_3, .inr (3, [.ref r0_M, .ref r1_M, .ref r2_M, .ref r3_M, .ref r4_M, .ref r5_M, .ref wd_M, .ref tp_M, .int (nI 0), .int (nI 0)])), (wd_M, .inl (cI, 192, .inl (fun _ => 0))), (tp_M, .inl (cI, 12, .inl (fun _ => 0))), (r0_M, .inr (2, [.ref a00_M, .ref b00_M, .ref v00_M, .int (nI 0)])), (a00_M, .inl (cI, 16, .inl (fun _ => 0))), (b00_M, .inl (cI, 16, .inl (fun _ => 0))), (v00_M, .inl (cJ, 16, .inr (.inl (fun _ => 0)))), (r1_M, .inr (2, [.ref a01_M, .ref b01_M, .ref v01_M, .int (nI 0)])), (a01_M, .inl (cI, 16, .inl (fun _ => 0))), (b01_M, .inl (cI, 16, .inl (fun _ => 0))), (v01_M, .inl (cJ, 16, .inr (.inl (fun _ => 0)))), (r2_M, .inr (2, [.ref a02_M, .ref b02_M, .ref v02_M, .int (nI 0)])), (a02_M, .inl (cI, 16, .inl (fun _ => 0))), (b02_M, .inl (cI, 16, .inl (fun _ => 0))), (v02_M, .inl (cJ, 16, .inr (.inl (fun _ => 0)))), (r3_M, .inr (2, [.ref a03_M, .ref b03_M, .ref v03_M, .int (nI 0)])), (a03_M, .inl (cI, 16, .inl (fun _ => 0))), (b03_M, .inl (cI, 16, .inl (fun _ => 0))), (v03_M, .inl (cJ, 16, .inr (.inl (fun _ => 0)))), (r4_M, .inr (2, [.ref a04_M, .ref b04_M, .ref v04_M, .int (nI 0)])), (a04_M, .inl (cI, 16, .inl (fun _ => 0))), (b04_M, .inl (cI, 16, .inl (fun _ => 0))), (v04_M, .inl (cJ, 16, .inr (.inl (fun _ => 0)))), (r5_M, .inr (2, [.ref a05_M, .ref b05_M, .ref v05_M, .int (nI 0)])), (a05_M, .inl (cI, 16, .inl (fun _ => 0))), (b05_M, .inl (cI, 16, .inl (fun _ => 0))), (v05_M, .inl (cJ, 16, .inr (.inl (fun _ => 0))))] H := hP.sub [0, 1, 2, 3, 4, 5, 6, 7, 8, 9, 10, 11, 12, 13, 14, 15, 16, 17, 18, 19, 20, 21, 22, 23, 24, 25, 26, 27, 28, 29, 30, 31, 32, 33, 34, 35, 36, 37, 38, 39, 40, 41, 42, 43, 44, 45, 46, 47, 48] rfl
  have hD : va_D (fun q : Nat => s.heap.size ≤ q) [(q_1, .inr (1, [.ref s0_X, .ref s1_X, .ref s2_X, .ref s3_X, .ref s4_X, .ref s5_X, .ref s6_X, .long 0, .long 0])), (s0_X, .inr (0, [.ref ka0_X, .ref va0_X, .int (nI 0)])), (ka0_X, .inl (cJ, 512, .inr (.inl (fun _ => 0)))), (va0_X, .inl (cJ, 512, .inr (.inl (fun _ => 0)))), (s1_X, .inr (0, [.ref ka1_X, .ref va1_X, .int (nI 0)])), (ka1_X, .inl (cJ, 512, .inr (.inl (fun _ => 0)))), (va1_X, .inl (cJ, 512, .inr (.inl (fun _ => 0)))), (s2_X, .inr (0, [.ref ka2_X, .ref va2_X, .int (nI 0)])), (ka2_X, .inl (cJ, 512, .inr (.inl (fun _ => 0)))), (va2_X, .inl (cJ, 512, .inr (.inl (fun _ => 0)))), (s3_X, .inr (0, [.ref ka3_X, .ref va3_X, .int (nI 0)])), (ka3_X, .inl (cJ, 512, .inr (.inl (fun _ => 0)))), (va3_X, .inl (cJ, 512, .inr (.inl (fun _ => 0)))), (s4_X, .inr (0, [.ref ka4_X, .ref va4_X, .int (nI 0)])), (ka4_X, .inl (cJ, 512, .inr (.inl (fun _ => 0)))), (va4_X, .inl (cJ, 512, .inr (.inl (fun _ => 0)))), (s5_X, .inr (0, [.ref ka5_X, .ref va5_X, .int (nI 0)])), (ka5_X, .inl (cJ, 752, .inr (.inl (fun _ => 0)))), (va5_X, .inl (cJ, 752, .inr (.inl (fun _ => 0)))), (s6_X, .inr (0, [.ref ka6_X, .ref va6_X, .int (nI 0)])), (ka6_X, .inl (cJ, 752, .inr (.inl (fun _ => 0)))), (va6_X, .inl (cJ, 752, .inr (.inl (fun _ => 0)))), (q_3, .inr (3, [.ref r0_M, .ref r1_M, .ref r2_M, .ref r3_M, .ref r4_M, .ref r5_M, .ref wd_M, .ref tp_M, .int (nI 0), .int (nI 0)])), (wd_M, .inl (cI, 192, .inl (fun _ => 0))), (tp_M, .inl (cI, 12, .inl (fun _ => 0))), (r0_M, .inr (2, [.ref a00_M, .ref b00_M, .ref v00_M, .int (nI 0)])), (a00_M, .inl (cI, 16, .inl (fun _ => 0))), (b00_M, .inl (cI, 16, .inl (fun _ => 0))), (v00_M, .inl (cJ, 16, .inr (.inl (fun _ => 0)))), (r1_M, .inr (2, [.ref a01_M, .ref b01_M, .ref v01_M, .int (nI 0)])), (a01_M, .inl (cI, 16, .inl (fun _ => 0))), (b01_M, .inl (cI, 16, .inl (fun _ => 0))), (v01_M, .inl (cJ, 16, .inr (.inl (fun _ => 0)))), (r2_M, .inr (2, [.ref a02_M, .ref b02_M, .ref v02_M, .int (nI 0)])), (a02_M, .inl (cI, 16, .inl (fun _ => 0))), (b02_M, .inl (cI, 16, .inl (fun _ => 0))), (v02_M, .inl (cJ, 16, .inr (.inl (fun _ => 0)))), (r3_M, .inr (2, [.ref a03_M, .ref b03_M, .ref v03_M, .int (nI 0)])), (a03_M, .inl (cI, 16, .inl (fun _ => 0))), (b03_M, .inl (cI, 16, .inl (fun _ => 0))), (v03_M, .inl (cJ, 16, .inr (.inl (fun _ => 0)))), (r4_M, .inr (2, [.ref a04_M, .ref b04_M, .ref v04_M, .int (nI 0)])), (a04_M, .inl (cI, 16, .inl (fun _ => 0))), (b04_M, .inl (cI, 16, .inl (fun _ => 0))), (v04_M, .inl (cJ, 16, .inr (.inl (fun _ => 0)))), (r5_M, .inr (2, [.ref a05_M, .ref b05_M, .ref v05_M, .int (nI 0)])), (a05_M, .inl (cI, 16, .inl (fun _ => 0))), (b05_M, .inl (cI, 16, .inl (fun _ => 0))), (v05_M, .inl (cJ, 16, .inr (.inl (fun _ => 0))))] := hD.sub [0, 1, 2, 3, 4, 5, 6, 7, 8, 9, 10, 11, 12, 13, 14, 15, 16, 17, 18, 19, 20, 21, 22, 23, 24, 25, 26, 27, 28, 29, 30, 31, 32, 33, 34, 35, 36, 37, 38, 39, 40, 41, 42, 43, 44, 45, 46, 47, 48] (by decide) rfl
  refine lv_astore_n (lv' := [(2, .ref q_3), (1, .ref q_1), (0, .ref b)]) hx hb dL_law_25 rfl hl (by decide) rfl (fun ls hl => ?_)
  refine lv_iconst (v := nI 1) hx hb dL_law_26 (by decide) ?_
  refine lv_istore_n (lv' := [(3, .int (nI 1)), (2, .ref q_3), (1, .ref q_1), (0, .ref b)]) hx hb dL_law_27 rfl hl (by decide) rfl (fun ls hl => ?_)
  have hI : LI D cI cJ (fun q => s.heap.size ≤ q) H q_1 q_3 0 := ⟨ls1 [s0_X, ka0_X, va0_X, s1_X, ka1_X, va1_X, s2_X, ka2_X, va2_X, s3_X, ka3_X, va3_X, s4_X, ka4_X, va4_X, s5_X, ka5_X, va5_X, s6_X, ka6_X, va6_X, r0_M, r1_M, r2_M, r3_M, r4_M, r5_M, wd_M, tp_M, a00_M, b00_M, v00_M, a01_M, b01_M, v01_M, a02_M, b02_M, v02_M, a03_M, b03_M, v03_M, a04_M, b04_M, v04_M, a05_M, b05_M, v05_M], ls1 [0, 0, 0, 0, 0, 0, 0, 0, 0, 0, 0, 0, 0, 16, 16, 16, 16, 16, 16, 0, 0, 192], lsK [(fun _ => 0), (fun _ => 0), (fun _ => 0), (fun _ => 0), (fun _ => 0), (fun _ => 0), (fun _ => 0), (fun _ => 0), (fun _ => 0), (fun _ => 0), (fun _ => 0), (fun _ => 0), (fun _ => 0), (fun _ => 0), (fun _ => 0), (fun _ => 0), (fun _ => 0), (fun _ => 0), (fun _ => 0), (fun _ => 0)], lsF [(fun _ => 0), (fun _ => 0), (fun _ => 0), (fun _ => 0), (fun _ => 0), (fun _ => 0), (fun _ => 0), (fun _ => 0), (fun _ => 0), (fun _ => 0), (fun _ => 0), (fun _ => 0), (fun _ => 0), (fun _ => 0)], lsL [0, 0], hP.sub [0, 1, 2, 3, 4, 5, 6, 7, 8, 9, 10, 11, 12, 13, 14, 15, 16, 17, 18, 19, 20, 21, 22, 23, 24, 25, 26, 27, 28, 29, 30, 31, 32, 33, 34, 35, 36, 37, 38, 39, 40, 41, 42, 43, 44, 45, 46, 47, 48] rfl, hD.sub [0, 1, 2, 3, 4, 5, 6, 7, 8, 9, 10, 11, 12, 13, 14, 15, 16, 17, 18, 19, 20, 21, 22, 23, 24, 25, 26, 27, 28, 29, 30, 31, 32, 33, 34, 35, 36, 37, 38, 39, 40, 41, 42, 43, 44, 45, 46, 47, 48] (by decide) rfl, RC.nil, RO.nil, RC.nil, RLn.nil, RC.nil, RP.nil, (Nat.zero_le 752), TR.nil, ⟨Nat.zero_le 16, Nat.le_refl 16, by decide⟩, ⟨Nat.zero_le 16, Nat.le_refl 16, by decide⟩, ⟨Nat.zero_le 16, Nat.le_refl 16, by decide⟩, ⟨Nat.zero_le 16, Nat.le_refl 16, by decide⟩, ⟨Nat.zero_le 16, Nat.le_refl 16, by decide⟩, ⟨Nat.zero_le 16, Nat.le_refl 16, by decide⟩, (Nat.zero_le 192), (Nat.le_refl 192), (by decide)⟩
  exact law_loop C0 hL hK hnw hI hS (lv_sub hl [3, 2, 1, 0] rfl) (by omega) (by omega)
set_option maxHeartbeats 4000000 in
theorem lw_walk (l : Launch) (b : Addr) (xs : List Int32) : MetFree l x (headSpec (Jvm.Cond.code x code maxLocals ret :: tables_1) room_1) (lw_P b xs) (fun _ _ _ _ _ => True) lw_Q := by
  refine MetFree.of_bodyS (code := code) (maxLocals := maxLocals) (ret := ret) (by decide) ?_ ?_
  · intro args s m h hn
    obtain ⟨meth, c, h1, h2, h3, h4, h5, h6, -, -⟩ := Cond.code_spec hn (atoms_spec (ws := Jvm.Cond.code x code maxLocals ret :: tables_1) h _ List.mem_cons_self)
    exact ⟨meth, c, h1, h2, h3, h4, h5, h6⟩
  · intro p e s m args below meth c s₁ B hml0 hP _
    obtain ⟨rfl, hx, hbd, hgv⟩ := hP
    obtain ⟨scr, harrAt, hlist, hof, hsmall⟩ := hx
    obtain ⟨hcb, hkn, -, -⟩ := State.arrayAt?_spec harrAt
    have hown : s.vm.findClass R_law = some m.cls := findClass_of_methodNamed B.named
    have hts0 : ∀ c ∈ (Jvm.Cond.code x code maxLocals ret :: tables_1), c.before #[Value.ref b] s = true := atoms_spec (ws := Jvm.Cond.code x code maxLocals ret :: tables_1) B.pre
    have hts : ∀ w ∈ lw_tbl, w.before #[Value.ref b] s = true := k2_hts_sels lw_privs (fun w hw => hts0 w (List.mem_cons_of_mem _ hw)) lw_privs_ok
    have hml : c.maxLocals = 4 := B.maxLocals_eq (hts0 _ List.mem_cons_self)
    have X₀ : Stand p l e room_1 s m #[Value.ref b] below meth c s₁ [] 0 0 := Stand.of_body B
    have hh0 : s₁.heap = s.heap := by rw [B.state]; rfl
    have hsz : scr.slots.size = xs.length := by rw [← Array.length_toList, hlist, List.length_map]
    have hval : ∀ j : Nat, j < xs.length → scr.slots[j]? = some (.int (xs.getD j 0)) := fun j hj => by
      rw [← Array.getElem?_toList, hlist]
      simp [hj]
    have hbl : b < s.heap.size := (Array.getElem?_eq_some_iff.mp hcb).1
    have hX : va_X b xs.length (fun j => xs.getD j 0) s s.heap := ⟨scr, hcb, hof, hkn, hsz, hval⟩
    have K : W p l e room_1 s m #[Value.ref b] below meth c s₁.heap [] 0 0 (lw_Z below #[Value.ref b] s) (entryFrame m ([Value.ref b] : List Value).toArray 4) := by
      rw [hh0]
      exact whole_start l hbd ⟨B.exec, B.bytes, B.returns, hml, hown, hts, hX, hbl, B.notSynchronized, hgv⟩
    obtain ⟨t, a1, o, b1, b2, b3⟩ := K s₁ rfl X₀
    exact ⟨t, o, a1, b1, b2, b3⟩
theorem lw_pre_spec {args : Array Value} {s : State} (h : (Jvm.Cond.and given_1 narrow_1).before args s = true) (hr : rest_1_c.before args s = true) : ∃ (b : Addr) (xs : List Int32), lw_P b xs args s := by
  have hs := flat_of_before _ h
  have hq := flat_of_before _ hr
  have hc : (Cond.count 1).before args s = true := hs _ (by decide +kernel)
  have harr : (Cond.arrayOf (.arg 0) .int).before args s = true := hs _ (by decide +kernel)
  have hle : (Cond.le (.length (.arg 0)) (.int 241)).before args s = true := hs _ (by decide +kernel)
  have hlen : (Cond.isInt (.length (.arg 0))).before args s = true := hq _ (by decide +kernel)
  have hall : (Cond.all (.arg 0) (.isInt (.elem (.arg 0) (.index 0)))).before args s = true := hq _ (by decide +kernel)
  obtain ⟨b, xs, hb, hx⟩ := State.ints_of_pre rfl harr hlen hall
  have hsm : xs.length < 2 ^ 31 := hx.choose_spec.2.2.2
  have hev : (Term.length (.arg 0)).eval args s none [] s = some (.int xs.length.toInt32) := hx.length_eval hb
  have hv := Cond.le_ints hev (show (Term.int 241).eval args s none [] s = some (.int 241) from rfl)
  have hd : xs.length.toInt32 ≤ 241 := by
    simpa [Cond.before, Cond.holds, hv] using hle
  have hN : xs.length ≤ 241 := (Int32.ofNat_le_ofNat hsm (by decide)).mp (show Int32.ofNat xs.length ≤ Int32.ofNat 241 from hd)
  exact ⟨b, xs, Cond.one_arg hc (show args[0]? = some (.ref b) from hb), hx, hN, h⟩
theorem lw_comes (l : Launch) : Comes l x (Jvm.Cond.code x code maxLocals ret :: tables_1) room_1 (fun tb e args s => Calls_1 tb e args s ∧ rest_1 tb e args s ∧ Pre_1 tb e args s)
    (fun _ _ args s o t => lw_Q args s o t) := by
  intro p e ha hc hk s m args below hf hfit hheap happ hpre
  obtain ⟨b, xs, hP⟩ := lw_pre_spec hpre.2.2 hpre.2.1
  obtain ⟨k, o, h1, h2, h3, hQ⟩ := lw_walk l b xs p e ha hc hk s m args below hf ((Spec.applies_iff_loose hf).mp happ).1 hP trivial
  exact ⟨k, o, h1, h2, h3, hQ⟩
theorem lw_frame {s t : State} {o : Outcome} {args : Array Value} (h : Framed s o t [] 600000 7302249) :
    Framed s o t (fieldLocs frame_1_writes args s ++ arrayLocs frame_1_arrays args s ++ staticLocs frame_1_statics s) 600000 7302249 := h
theorem lw_limb (L : Cond) (hL : ∀ (args : Array Value) (s t : State), L.after args s (.returned (some (.int 1))) t = true) :
    ArmFor flags0 classFile x code maxLocals ret World_1 tables_1 room_1 Calls_1 rest_1 Pre_1
      (fun tb e a s o t => postC L tb e a s o t ∧ Framed s o t (fieldLocs frame_1_writes a s ++ arrayLocs frame_1_arrays a s ++ staticLocs frame_1_statics s) 600000 7302249) := by
  intro l _ _ _ p e ha hc hk s m args below hf hfit hheap happ hpre
  obtain ⟨k, o, h1, h2, h3, rfl, hF⟩ := lw_comes l p e ha hc hk s m args below hf hfit hheap happ hpre
  exact ⟨k, _, h1, h2, h3, hL args s _, lw_frame hF⟩
theorem i_vc : Claimed_1_1 ∧ Claimed_1_2 := ⟨lw_limb limb_1_1 (fun args s t => by simp [limb_1_1, Cond.after, Cond.holds, Cond.value]), lw_limb limb_1_2 (fun args s t => Cond.after_iff.mpr (by
  first | (rw [show limb_1_2 = Cond.eq .result (.int 1) from rfl, Cond.eq_ints (x := 1) (y := 1) rfl rfl]; simp; done) | (simp [limb_1_2, Cond.value, Term.eval]; done)))⟩
