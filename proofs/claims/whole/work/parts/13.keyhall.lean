/-! KeyHall: its methods -/
set_option maxHeartbeats 4000000 in
set_option maxRecDepth 100000 in
theorem c_X1_pairKey (l : Launch) (a b : Int32) : Met l yX1_pairKey wsX1_pairKey { frames := 0, cells := 0, slots := 0, locals := 0 } (va_Pc [.int a, .int b] (fun _ => True)) (vp_Sl (fun r => r = pk a b)) 0 0 (fun _ => False) := by
  refine Met.ofW (cc := cX1_pairKey) (maxL := 2) (ret := (some .long)) (by decide) rfl ?_
  intro p e s m args below meth c s₁ B hml hv
  obtain ⟨rfl, -⟩ := hv
  have hx := B.exec
  have hb := B.bytes
  have hr := B.returns
  have hts := atoms_spec (ws := wsX1_pairKey) B.pre
  have hown : s.vm.findClass RX1 = some m.cls := findClass_of_methodNamed B.named
  have hlocks := B.notSynchronized
  have lk0 := hts (.constantLong RX1 140 (-2147483648)) (by decide +kernel)
  have hl := lv_entry ([.int a, .int b]) (n := 2) (Nat.le_of_ble_eq_true rfl)
  rw [lg_entry_eq]
  generalize (lg_sl ([.int a, .int b]) ++ List.replicate (2 - (lg_sl ([.int a, .int b])).length) Slot.unset).toArray = ls at hl ⊢
  have hl : lv_has ls 2 [(0, .int a), (1, .int b)] := hl
  refine lv_iload_n hx hb dX1_pairKey_0 rfl (lv_at hl 0 rfl) ?_
  refine lv_i2l (v := a.toInt64) hx hb dX1_pairKey_1 rfl ?_
  refine lv_bipush (v := nI 32) hx hb dX1_pairKey_2 (by decide) ?_
  refine lv_lshl (v := a.toInt64 <<< ((nI 32).toInt64 &&& 63)) hx hb dX1_pairKey_4 rfl ?_
  refine lv_iload_n hx hb dX1_pairKey_5 rfl (lv_at hl 1 rfl) ?_
  refine lv_i2l (v := b.toInt64) hx hb dX1_pairKey_6 rfl ?_
  refine lv_ldc2 hx hb hown lk0 dX1_pairKey_7 ?_
  refine lv_lsub hx hb dX1_pairKey_10 ?_
  refine lv_ladd hx hb dX1_pairKey_11 ?_
  exact W.lret (v := (a.toInt64 <<< ((nI 32).toInt64 &&& 63)) + (b.toInt64 - (-2147483648))) hx hb hr (fun t ht hW => ⟨(a.toInt64 <<< ((nI 32).toInt64 &&& 63)) + (b.toInt64 - (-2147483648)), rfl, rfl, ht⟩) (fun _ h => nomatch h) dX1_pairKey_12

set_option maxHeartbeats 4000000 in
set_option maxRecDepth 100000 in
theorem c_X1_firstOf (l : Launch) (k : Int64) : Met l yX1_firstOf wsX1_firstOf { frames := 0, cells := 0, slots := 0, locals := 0 } (va_Pc [.long k] (fun _ => True)) (vp_Si (fun r => r = fsK k)) 0 0 (fun _ => False) := by
  refine Met.ofW (cc := cX1_firstOf) (maxL := 2) (ret := (some .int)) (by decide) rfl ?_
  intro p e s m args below meth c s₁ B hml hv
  obtain ⟨rfl, -⟩ := hv
  have hx := B.exec
  have hb := B.bytes
  have hr := B.returns
  have hts := atoms_spec (ws := wsX1_firstOf) B.pre
  have hown : s.vm.findClass RX1 = some m.cls := findClass_of_methodNamed B.named
  have hlocks := B.notSynchronized
  have hl := lv_entry ([.long k]) (n := 2) (Nat.le_of_ble_eq_true rfl)
  rw [lg_entry_eq]
  generalize (lg_sl ([.long k]) ++ List.replicate (2 - (lg_sl ([.long k])).length) Slot.unset).toArray = ls at hl ⊢
  have hl : lv_has ls 2 [(0, .long k)] := hl
  refine lv_lload_n hx hb dX1_firstOf_0 rfl (lv_at hl 0 rfl) ?_
  refine lv_bipush (v := nI 32) hx hb dX1_firstOf_1 (by decide) ?_
  refine lv_lshr (v := k >>> ((nI 32).toInt64 &&& 63)) hx hb dX1_firstOf_3 rfl ?_
  refine lv_l2i (v := (k >>> ((nI 32).toInt64 &&& 63)).toInt32) hx hb dX1_firstOf_4 rfl ?_
  exact W.iret (v := (k >>> ((nI 32).toInt64 &&& 63)).toInt32) hx hb hr (fun t ht hW => ⟨(k >>> ((nI 32).toInt64 &&& 63)).toInt32, rfl, rfl, ht⟩) (fun _ h => nomatch h) dX1_firstOf_5

set_option maxHeartbeats 4000000 in
set_option maxRecDepth 100000 in
theorem c_X1_secondOf (l : Launch) (k : Int64) : Met l yX1_secondOf wsX1_secondOf { frames := 0, cells := 0, slots := 0, locals := 0 } (va_Pc [.long k] (fun _ => True)) (vp_Si (fun r => r = snK k)) 0 0 (fun _ => False) := by
  refine Met.ofW (cc := cX1_secondOf) (maxL := 2) (ret := (some .int)) (by decide) rfl ?_
  intro p e s m args below meth c s₁ B hml hv
  obtain ⟨rfl, -⟩ := hv
  have hx := B.exec
  have hb := B.bytes
  have hr := B.returns
  have hts := atoms_spec (ws := wsX1_secondOf) B.pre
  have hown : s.vm.findClass RX1 = some m.cls := findClass_of_methodNamed B.named
  have hlocks := B.notSynchronized
  have lk0 := hts (.constant RX1 142 (-2147483648)) (by decide +kernel)
  have hl := lv_entry ([.long k]) (n := 2) (Nat.le_of_ble_eq_true rfl)
  rw [lg_entry_eq]
  generalize (lg_sl ([.long k]) ++ List.replicate (2 - (lg_sl ([.long k])).length) Slot.unset).toArray = ls at hl ⊢
  have hl : lv_has ls 2 [(0, .long k)] := hl
  refine lv_lload_n hx hb dX1_secondOf_0 rfl (lv_at hl 0 rfl) ?_
  refine lv_l2i (v := k.toInt32) hx hb dX1_secondOf_1 rfl ?_
  refine lv_ldc hx hb hown lk0 dX1_secondOf_2 ?_
  refine lv_iadd hx hb dX1_secondOf_4 ?_
  exact W.iret (v := k.toInt32 + (-2147483648)) hx hb hr (fun t ht hW => ⟨k.toInt32 + (-2147483648), rfl, rfl, ht⟩) (fun _ h => nomatch h) dX1_secondOf_5

set_option maxHeartbeats 4000000 in
set_option maxRecDepth 100000 in
theorem c_X1_hasEvenSum (l : Launch) (k : Int64) : Met l yX1_hasEvenSum wsX1_hasEvenSum { frames := 1, cells := 0, slots := 0, locals := 21 } (va_Pc [.long k] (fun _ => True)) (vp_Si (fun r => (evK k ∧ r = nI 1) ∨ (¬ evK k ∧ r = nI 0))) 0 0 (fun _ => False) := by
  refine Met.ofW (cc := cX1_hasEvenSum) (maxL := 2) (ret := (some .boolean)) (by decide) rfl ?_
  intro p e s m args below meth c s₁ B hml hv
  obtain ⟨rfl, -⟩ := hv
  have hx := B.exec
  have hb := B.bytes
  have hr := B.returns
  have hts := atoms_spec (ws := wsX1_hasEvenSum) B.pre
  have hown : s.vm.findClass RX1 = some m.cls := findClass_of_methodNamed B.named
  have hlocks := B.notSynchronized
  have hl := lv_entry ([.long k]) (n := 2) (Nat.le_of_ble_eq_true rfl)
  rw [lg_entry_eq]
  generalize (lg_sl ([.long k]) ++ List.replicate (2 - (lg_sl ([.long k])).length) Slot.unset).toArray = ls at hl ⊢
  have hl : lv_has ls 2 [(0, .long k)] := hl
  refine lv_lload_n hx hb dX1_hasEvenSum_0 rfl (lv_at hl 0 rfl) ?_
  refine vp_callSi (va_Run.run (va_runS (As := [.long k]) (rest := []) ⟨hx, hb, hml, hown, hts⟩ (c_X1_firstOf l k) (va_cwS 1 hts gX1_hasEvenSum_X1_firstOf rfl rfl rfl (by decide +kernel) ⟨Nat.le_of_ble_eq_true rfl, Nat.le_of_ble_eq_true rfl⟩) z_preT rfl rfl hl.1 rfl (lv_room (Nat.le_of_ble_eq_true rfl)) dX1_hasEvenSum_1 ⟨Nat.zero_le _, Nat.zero_le _⟩)) (fun r_1 hr_1 => ?_)
  replace hr_1 := hr_1.symm
  subst hr_1
  refine lv_lload_n hx hb dX1_hasEvenSum_4 rfl (lv_at hl 0 rfl) ?_
  refine vp_callSi (va_Run.run (va_runS (As := [.long k]) (rest := [.int (fsK k)]) ⟨hx, hb, hml, hown, hts⟩ (c_X1_secondOf l k) (va_cwS 1 hts gX1_hasEvenSum_X1_secondOf rfl rfl rfl (by decide +kernel) ⟨Nat.le_of_ble_eq_true rfl, Nat.le_of_ble_eq_true rfl⟩) z_preT rfl rfl hl.1 rfl (lv_room (Nat.le_of_ble_eq_true rfl)) dX1_hasEvenSum_5 ⟨Nat.zero_le _, Nat.zero_le _⟩)) (fun r_2 hr_2 => ?_)
  replace hr_2 := hr_2.symm
  subst hr_2
  refine lv_iadd hx hb dX1_hasEvenSum_8 ?_
  refine lv_iconst (v := nI 1) hx hb dX1_hasEvenSum_9 (by decide) ?_
  refine lv_iand hx hb dX1_hasEvenSum_10 ?_
  refine lv_if_ne (tgt := 18) hx hb dX1_hasEvenSum_11 (by decide) (fun c_11 => ?_) (fun c_11 => ?_)
  · refine lv_iconst (v := nI 0) hx hb dX1_hasEvenSum_18 (by decide) ?_
    exact W.zret (v := nI 0) hx hb hr (by decide) (fun t ht hW => ⟨nI 0, rfl, Or.inr ⟨c_11, rfl⟩, ht⟩) (fun _ h => nomatch h) dX1_hasEvenSum_19
  · refine lv_iconst (v := nI 1) hx hb dX1_hasEvenSum_14 (by decide) ?_
    refine lv_goto (tgt := 19) hx hb dX1_hasEvenSum_15 (by decide) ?_
    exact W.zret (v := nI 1) hx hb hr (by decide) (fun t ht hW => ⟨nI 1, rfl, Or.inl ⟨c_11, rfl⟩, ht⟩) (fun _ h => nomatch h) dX1_hasEvenSum_19

set_option maxHeartbeats 4000000 in
set_option maxRecDepth 100000 in
theorem c_X1_placeOf (l : Launch) (k : Nat) (hk : k ≤ 11) : Met l yX1_placeOf wsX1_placeOf { frames := 0, cells := 0, slots := 0, locals := 0 } (va_Pc [.int (nI k)] (fun _ => True)) (vp_Si (fun r => r = nI (5 * (11 - k)))) 0 0 (fun _ => False) := by
  refine Met.ofW (cc := cX1_placeOf) (maxL := 1) (ret := (some .int)) (by decide) rfl ?_
  intro p e s m args below meth c s₁ B hml hv
  obtain ⟨rfl, -⟩ := hv
  have hx := B.exec
  have hb := B.bytes
  have hr := B.returns
  have hts := atoms_spec (ws := wsX1_placeOf) B.pre
  have hown : s.vm.findClass RX1 = some m.cls := findClass_of_methodNamed B.named
  have hlocks := B.notSynchronized
  have hl := lv_entry ([.int (nI k)]) (n := 1) (Nat.le_of_ble_eq_true rfl)
  rw [lg_entry_eq]
  generalize (lg_sl ([.int (nI k)]) ++ List.replicate (1 - (lg_sl ([.int (nI k)])).length) Slot.unset).toArray = ls at hl ⊢
  have hl : lv_has ls 1 [(0, .int (nI k))] := hl
  refine lv_iconst (v := nI 5) hx hb dX1_placeOf_0 (by decide) ?_
  refine lv_bipush (v := nI 11) hx hb dX1_placeOf_1 (by decide) ?_
  refine lv_iload_n hx hb dX1_placeOf_3 rfl (lv_at hl 0 rfl) ?_
  refine z_isub hx hb dX1_placeOf_4 (by omega) ?_
  refine z_imul hx hb dX1_placeOf_5 ?_
  exact W.iret (v := nI (5 * (11 - k))) hx hb hr (fun t ht hW => ⟨nI (5 * (11 - k)), rfl, rfl, ht⟩) (fun _ h => nomatch h) dX1_placeOf_6

set_option maxHeartbeats 4000000 in
set_option maxRecDepth 100000 in
theorem c_X1_signAt (l : Launch) (tw : Int64) (k : Nat) (hk : k ≤ 11) : Met l yX1_signAt wsX1_signAt { frames := 1, cells := 0, slots := 0, locals := 20 } (va_Pc [.long tw, .int (nI k)] (fun _ => True)) (vp_Si (fun r => r = sgA tw k)) 0 0 (fun _ => False) := by
  refine Met.ofW (cc := cX1_signAt) (maxL := 3) (ret := (some .int)) (by decide) rfl ?_
  intro p e s m args below meth c s₁ B hml hv
  obtain ⟨rfl, -⟩ := hv
  have hx := B.exec
  have hb := B.bytes
  have hr := B.returns
  have hts := atoms_spec (ws := wsX1_signAt) B.pre
  have hown : s.vm.findClass RX1 = some m.cls := findClass_of_methodNamed B.named
  have hlocks := B.notSynchronized
  have lk0 := hts (.constantLong RX1 69 (31)) (by decide +kernel)
  have hl := lv_entry ([.long tw, .int (nI k)]) (n := 3) (Nat.le_of_ble_eq_true rfl)
  rw [lg_entry_eq]
  generalize (lg_sl ([.long tw, .int (nI k)]) ++ List.replicate (3 - (lg_sl ([.long tw, .int (nI k)])).length) Slot.unset).toArray = ls at hl ⊢
  have hl : lv_has ls 3 [(0, .long tw), (2, .int (nI k))] := hl
  refine lv_lload_n hx hb dX1_signAt_0 rfl (lv_at hl 0 rfl) ?_
  refine lv_iload_n hx hb dX1_signAt_1 rfl (lv_at hl 1 rfl) ?_
  refine vp_callSi (va_Run.run (va_runS (As := [.int (nI k)]) (rest := [.long tw]) ⟨hx, hb, hml, hown, hts⟩ (c_X1_placeOf l k (by omega)) (va_cwS 1 hts gX1_signAt_X1_placeOf rfl rfl rfl (by decide +kernel) ⟨Nat.le_of_ble_eq_true rfl, Nat.le_of_ble_eq_true rfl⟩) z_preT rfl rfl hl.1 rfl (lv_room (Nat.le_of_ble_eq_true rfl)) dX1_signAt_2 ⟨Nat.zero_le _, Nat.zero_le _⟩)) (fun r_1 hr_1 => ?_)
  replace hr_1 := hr_1.symm
  subst hr_1
  refine lv_lshr (v := tw >>> ((nI (5 * (11 - k))).toInt64 &&& 63)) hx hb dX1_signAt_5 rfl ?_
  refine lv_ldc2 hx hb hown lk0 dX1_signAt_6 ?_
  refine lv_land hx hb dX1_signAt_9 ?_
  refine lv_l2i (v := ((tw >>> ((nI (5 * (11 - k))).toInt64 &&& 63)) &&& 31).toInt32) hx hb dX1_signAt_10 rfl ?_
  exact W.iret (v := ((tw >>> ((nI (5 * (11 - k))).toInt64 &&& 63)) &&& 31).toInt32) hx hb hr (fun t ht hW => ⟨((tw >>> ((nI (5 * (11 - k))).toInt64 &&& 63)) &&& 31).toInt32, rfl, rfl, ht⟩) (fun _ h => nomatch h) dX1_signAt_11

set_option maxHeartbeats 4000000 in
set_option maxRecDepth 100000 in
theorem c_X1_signsOf (l : Launch) (tw : Int64) : Met l yX1_signsOf wsX1_signsOf { frames := 2, cells := 0, slots := 0, locals := 42 } (va_Pc [.long tw] (fun _ => True)) (vp_Si (fun r => ∃ k, r = nI k ∧ SG tw k)) 0 0 (fun _ => False) := by
  refine Met.ofW (cc := cX1_signsOf) (maxL := 3) (ret := (some .int)) (by decide) rfl ?_
  intro p e s m args below meth c s₁ B hml hv
  obtain ⟨rfl, -⟩ := hv
  have hx := B.exec
  have hb := B.bytes
  have hr := B.returns
  have hts := atoms_spec (ws := wsX1_signsOf) B.pre
  have hown : s.vm.findClass RX1 = some m.cls := findClass_of_methodNamed B.named
  have hlocks := B.notSynchronized
  have hl := lv_entry ([.long tw]) (n := 3) (Nat.le_of_ble_eq_true rfl)
  rw [lg_entry_eq]
  generalize (lg_sl ([.long tw]) ++ List.replicate (3 - (lg_sl ([.long tw])).length) Slot.unset).toArray = ls at hl ⊢
  have hl : lv_has ls 3 [(0, .long tw)] := hl
  refine lv_iconst (v := nI 0) hx hb dX1_signsOf_0 (by decide) ?_
  refine lv_istore_n (lv' := [(2, .int (nI 0)), (0, .long tw)]) hx hb dX1_signsOf_1 rfl hl (by decide) rfl (fun ls hl => ?_)
  refine z_loop (σ := Nat) (fun k => 12 - k) (fun k ls => lv_has ls 3 [(0, .long tw), (2, .int (nI k))] ∧ (k ≤ 12) ∧ (∀ i, i < k → sgA tw i ≠ 0)) ?_ (0) _ ⟨lv_sub hl [1, 0] rfl, by decide, fun i h => absurd h (Nat.not_lt_zero i)⟩
  rintro k ls ⟨hl, hk, h1⟩ ih
  have hl : lv_has ls 3 [(0, .long tw), (2, .int (nI k))] := hl
  refine lv_iload_n hx hb dX1_signsOf_2 rfl (lv_at hl 1 rfl) ?_
  refine lv_bipush (v := nI 12) hx hb dX1_signsOf_3 (by decide) ?_
  refine z_icmp_ge (tgt := 22) hx hb dX1_signsOf_5 (by decide) (by omega) (by omega) (fun c_5 => ?_) (fun c_5 => ?_)
  · refine lv_iload_n hx hb dX1_signsOf_22 rfl (lv_at hl 1 rfl) ?_
    exact W.iret (v := nI k) hx hb hr (fun t ht hW => ⟨nI k, rfl, ⟨k, rfl, hk, h1, fun q => absurd q (by omega)⟩, ht⟩) (fun _ h => nomatch h) dX1_signsOf_23
  · refine lv_lload_n hx hb dX1_signsOf_8 rfl (lv_at hl 0 rfl) ?_
    refine lv_iload_n hx hb dX1_signsOf_9 rfl (lv_at hl 1 rfl) ?_
    refine vp_callSi (va_Run.run (va_runS (As := [.long tw, .int (nI k)]) (rest := []) ⟨hx, hb, hml, hown, hts⟩ (c_X1_signAt l tw k (by omega)) (va_cwS 2 hts gX1_signsOf_X1_signAt rfl rfl rfl (by decide +kernel) ⟨Nat.le_of_ble_eq_true rfl, Nat.le_of_ble_eq_true rfl⟩) z_preT rfl rfl hl.1 rfl (lv_room (Nat.le_of_ble_eq_true rfl)) dX1_signsOf_10 ⟨Nat.zero_le _, Nat.zero_le _⟩)) (fun r_1 hr_1 => ?_)
    replace hr_1 := hr_1.symm
    subst hr_1
    refine lv_if_eq (tgt := 22) hx hb dX1_signsOf_13 (by decide) (fun c_13 => ?_) (fun c_13 => ?_)
    · refine lv_iload_n hx hb dX1_signsOf_22 rfl (lv_at hl 1 rfl) ?_
      exact W.iret (v := nI k) hx hb hr (fun t ht hW => ⟨nI k, rfl, ⟨k, rfl, hk, h1, fun _ => c_13⟩, ht⟩) (fun _ h => nomatch h) dX1_signsOf_23
    · refine lv_iinc (v := nI (k + 1)) (lv' := [(2, .int (nI (k + 1))), (0, .long tw)]) hx hb dX1_signsOf_16 hl (k := 1) rfl (nI_add k 1) (by decide) rfl (fun ls hl => ?_)
      refine lv_goto (tgt := 2) hx hb dX1_signsOf_19 (by decide) ?_
      exact ih (k + 1) _ ⟨lv_sub hl [1, 0] rfl, by omega, fun i hi => (Nat.lt_succ_iff_lt_or_eq.mp hi).elim (h1 i) (fun q => q ▸ c_13)⟩ (by first | omega | (dsimp only; omega))

set_option maxHeartbeats 4000000 in
set_option maxRecDepth 100000 in
theorem c_X1_add (l : Launch) (D : va_G) (cI cJ : ClassId) (x s0 s1 s2 s3 s4 s5 s6 : Nat) (tape turn : Int64) (ka va n : Nat) (K V : Nat → Int64) (hn : n ≤ 512) (hs : Srt n K) (hn1 : n < 512) (a b v : Int32) (sz : Nat) : Met l yX1_add wsX1_add { frames := 3, cells := 0, slots := 0, locals := 76 } (va_Pc [.ref x, .int a, .int b, .int v] (wP D cI cJ [(x, .inr (1, [.ref s0, .ref s1, .ref s2, .ref s3, .ref s4, .ref s5, .ref s6, .long tape, .long turn])), (s0, .inr (0, [.ref ka, .ref va, .int (nI n)])), (ka, .inl (cJ, 512, .inr (.inl K))), (va, .inl (cJ, 512, .inr (.inl V)))] sz)) (va_Ql (fun r (u : SS) => RaR n K V (pk a b) v.toInt64 r u) (wB D cI cJ (va_A [(x, .inr (1, [.ref s0, .ref s1, .ref s2, .ref s3, .ref s4, .ref s5, .ref s6, .long tape, .long turn])), (s0, .inr (0, [.ref ka, .ref va, .int (nI n)])), (ka, .inl (cJ, 512, .inr (.inl K))), (va, .inl (cJ, 512, .inr (.inl V)))] sz) (fun (n', K', V') => [(x, .inr (1, [.ref s0, .ref s1, .ref s2, .ref s3, .ref s4, .ref s5, .ref s6, .long tape, .long turn])), (s0, .inr (0, [.ref ka, .ref va, .int (nI n')])), (ka, .inl (cJ, 512, .inr (.inl K'))), (va, .inl (cJ, 512, .inr (.inl V')))])) (va_A [(x, .inr (1, [.ref s0, .ref s1, .ref s2, .ref s3, .ref s4, .ref s5, .ref s6, .long tape, .long turn])), (s0, .inr (0, [.ref ka, .ref va, .int (nI n)])), (ka, .inl (cJ, 512, .inr (.inl K))), (va, .inl (cJ, 512, .inr (.inl V)))] sz)) 0 0 (va_A [(x, .inr (1, [.ref s0, .ref s1, .ref s2, .ref s3, .ref s4, .ref s5, .ref s6, .long tape, .long turn])), (s0, .inr (0, [.ref ka, .ref va, .int (nI n)])), (ka, .inl (cJ, 512, .inr (.inl K))), (va, .inl (cJ, 512, .inr (.inl V)))] sz) := by
  refine Met.ofW (cc := cX1_add) (maxL := 4) (ret := (some .long)) (by decide) rfl ?_
  intro p e s m args below meth c s₁ B hml hv
  obtain ⟨rfl, hsz, hP, hK, hD0⟩ := hv
  have hx := B.exec
  have hb := B.bytes
  have hr := B.returns
  have hts := atoms_spec (ws := wsX1_add) B.pre
  have hown : s.vm.findClass RX1 = some m.cls := findClass_of_methodNamed B.named
  have hlocks := B.notSynchronized
  have lk0 := hts (.fieldLink RX1 14 "KeyHall" "counts" "LKeyHall$Sorted;") (by decide +kernel)
  have lk1 : ∀ w ∈ wsX10, w ∈ wsX1_add := by decide +kernel
  subst hsz
  have hD := hD0.self (sz := s.heap.size)
  generalize hAe : va_A [(x, .inr (1, [.ref s0, .ref s1, .ref s2, .ref s3, .ref s4, .ref s5, .ref s6, .long tape, .long turn])), (s0, .inr (0, [.ref ka, .ref va, .int (nI n)])), (ka, .inl (cJ, 512, .inr (.inl K))), (va, .inl (cJ, 512, .inr (.inl V)))] s.heap.size = A at hD ⊢
  have hA : ∀ q : Nat, s.heap.size ≤ q → A q := fun q h => by rw [← hAe]; exact Or.inr h
  have hS : va_S A s.heap s.heap [] := va_S.rf
  have hP : va_P D vwCl [(x, .inr (1, [.ref s0, .ref s1, .ref s2, .ref s3, .ref s4, .ref s5, .ref s6, .long tape, .long turn])), (s0, .inr (0, [.ref ka, .ref va, .int (nI n)])), (ka, .inl (cJ, 512, .inr (.inl K))), (va, .inl (cJ, 512, .inr (.inl V)))] s.heap := hP
  have hl := lv_entry ([.ref x, .int a, .int b, .int v]) (n := 4) (Nat.le_of_ble_eq_true rfl)
  rw [lg_entry_eq]
  generalize (lg_sl ([.ref x, .int a, .int b, .int v]) ++ List.replicate (4 - (lg_sl ([.ref x, .int a, .int b, .int v])).length) Slot.unset).toArray = ls at hl ⊢
  have hl : lv_has ls 4 [(0, .ref x), (1, .int a), (2, .int b), (3, .int v)] := hl
  refine lv_aload_n hx hb dX1_add_0 rfl (lv_at hl 0 rfl) ?_
  refine va_get (D := D) (ci := 1) (v := .ref s0) (C := RX1) (T := TX1) (N := 9) hx hb hts lk1 hown hK hP 0 rfl rfl 0 (by decide) lk0 (fun _ h9 => h9) rfl dX1_add_1 ?_
  refine lv_iload_n hx hb dX1_add_4 rfl (lv_at hl 1 rfl) ?_
  refine lv_iload_n hx hb dX1_add_5 rfl (lv_at hl 2 rfl) ?_
  refine vp_callSl (va_Run.run (va_runS (As := [.int a, .int b]) (rest := [.ref s0]) ⟨hx, hb, hml, hown, hts⟩ (c_X1_pairKey l a b) (va_cwS 2 hts gX1_add_X1_pairKey rfl rfl rfl (by decide +kernel) ⟨Nat.le_of_ble_eq_true rfl, Nat.le_of_ble_eq_true rfl⟩) z_preT rfl rfl hl.1 rfl (lv_room (Nat.le_of_ble_eq_true rfl)) dX1_add_6 ⟨Nat.zero_le _, Nat.zero_le _⟩)) (fun r_1 hr_1 => ?_)
  replace hr_1 := hr_1.symm
  subst hr_1
  refine lv_iload_n hx hb dX1_add_9 rfl (lv_at hl 3 rfl) ?_
  refine lv_i2l (v := v.toInt64) hx hb dX1_add_10 rfl ?_
  have hFc := va_free (wc := [(s0, .inr (0, [.ref ka, .ref va, .int (nI n)])), (ka, .inl (cJ, 512, .inr (.inl K))), (va, .inl (cJ, 512, .inr (.inl V)))]) hD hS hA [1, 2, 3] rfl
  refine va_calll (va_runV (As := [.long (pk a b), .long v.toInt64]) (rest := []) ⟨hx, hb, hml, hown, hts⟩ (c_X0_raise l D cI cJ s0 ka va 512 n K V (pk a b) v.toInt64 (by omega) (by omega) (by assumption) (by omega) s.heap.size) (cwV 2 hts gX1_add_X0_raise rfl rfl rfl (by decide +kernel) ⟨Nat.le_of_ble_eq_true rfl, Nat.le_of_ble_eq_true rfl⟩) (z_preVw hK hP hD [1, 2, 3] (by decide) rfl rfl 0 1 rfl rfl) rfl rfl hl.1 rfl (lv_room (Nat.le_of_ble_eq_true rfl)) dX1_add_11 ⟨Nat.zero_le _, Nat.zero_le _⟩) hS (fun q _ h => hFc q h) hFc (fun r_3 u_2 t H1 locs ht hvm hr_3 hB hzz1 hkk1 hS => ?_)
  obtain ⟨n4, K4, V4⟩ := u_2
  obtain ⟨hP1, hK1, hD1⟩ := hB
  rw [ht] at hP1
  try dsimp only at hr_3
  obtain ⟨hP, hD⟩ := va_join (wr := [(x, .inr (1, [.ref s0, .ref s1, .ref s2, .ref s3, .ref s4, .ref s5, .ref s6, .long tape, .long turn]))]) (w1 := [(s0, .inr (0, [.ref ka, .ref va, .int (nI n4)])), (ka, .inl (cJ, 512, .inr (.inl K4))), (va, .inl (cJ, 512, .inr (.inl V4)))]) hP hD [1, 2, 3] [0] rfl rfl (by decide) (by decide) hkk1 hFc hP1 hD1
  generalize H1 = H at hP hS ⊢
  have hP : va_P D vwCl [(x, .inr (1, [.ref s0, .ref s1, .ref s2, .ref s3, .ref s4, .ref s5, .ref s6, .long tape, .long turn])), (s0, .inr (0, [.ref ka, .ref va, .int (nI n4)])), (ka, .inl (cJ, 512, .inr (.inl K4))), (va, .inl (cJ, 512, .inr (.inl V4)))] H := hP.sub [0, 1, 2, 3] rfl
  have hD : va_D A [(x, .inr (1, [.ref s0, .ref s1, .ref s2, .ref s3, .ref s4, .ref s5, .ref s6, .long tape, .long turn])), (s0, .inr (0, [.ref ka, .ref va, .int (nI n4)])), (ka, .inl (cJ, 512, .inr (.inl K4))), (va, .inl (cJ, 512, .inr (.inl V4)))] := hD.sub [0, 1, 2, 3] (by decide) rfl
  exact W.lret (v := r_3) hx hb hr (fun t ht hW => ⟨⟨r_3, (n4, K4, V4), rfl, hr_3, by rw [ht]; exact hP, va_K.moved hW.alike hK, hD⟩, hS.F ht⟩) hS.2.2 dX1_add_14

set_option maxHeartbeats 4000000 in
set_option maxRecDepth 100000 in
theorem c_X1_count (l : Launch) (D : va_G) (cI cJ : ClassId) (x s0 s1 s2 s3 s4 s5 s6 : Nat) (tape turn : Int64) (ka va n : Nat) (K V : Nat → Int64) (hn : n ≤ 512) (hs : Srt n K) (a b : Int32) : Met l yX1_count wsX1_count { frames := 3, cells := 0, slots := 0, locals := 67 } (va_Pc [.ref x, .int a, .int b] (rP D cI cJ [(x, .inr (1, [.ref s0, .ref s1, .ref s2, .ref s3, .ref s4, .ref s5, .ref s6, .long tape, .long turn])), (s0, .inr (0, [.ref ka, .ref va, .int (nI n)])), (ka, .inl (cJ, 512, .inr (.inl K))), (va, .inl (cJ, 512, .inr (.inl V)))])) (vp_Sl (fun r => LkR n K V (pk a b) r)) 0 0 (fun _ => False) := by
  refine Met.ofW (cc := cX1_count) (maxL := 3) (ret := (some .long)) (by decide) rfl ?_
  intro p e s m args below meth c s₁ B hml hv
  obtain ⟨rfl, hP, hK⟩ := hv
  have hx := B.exec
  have hb := B.bytes
  have hr := B.returns
  have hts := atoms_spec (ws := wsX1_count) B.pre
  have hown : s.vm.findClass RX1 = some m.cls := findClass_of_methodNamed B.named
  have hlocks := B.notSynchronized
  have lk0 := hts (.fieldLink RX1 14 "KeyHall" "counts" "LKeyHall$Sorted;") (by decide +kernel)
  have lk1 : ∀ w ∈ wsX10, w ∈ wsX1_count := by decide +kernel
  have hl := lv_entry ([.ref x, .int a, .int b]) (n := 3) (Nat.le_of_ble_eq_true rfl)
  rw [lg_entry_eq]
  generalize (lg_sl ([.ref x, .int a, .int b]) ++ List.replicate (3 - (lg_sl ([.ref x, .int a, .int b])).length) Slot.unset).toArray = ls at hl ⊢
  have hl : lv_has ls 3 [(0, .ref x), (1, .int a), (2, .int b)] := hl
  refine lv_aload_n hx hb dX1_count_0 rfl (lv_at hl 0 rfl) ?_
  refine va_get (D := D) (ci := 1) (v := .ref s0) (C := RX1) (T := TX1) (N := 9) hx hb hts lk1 hown hK hP 0 rfl rfl 0 (by decide) lk0 (fun _ h9 => h9) rfl dX1_count_1 ?_
  refine lv_aload_n hx hb dX1_count_4 rfl (lv_at hl 0 rfl) ?_
  refine va_get (D := D) (ci := 1) (v := .ref s0) (C := RX1) (T := TX1) (N := 9) hx hb hts lk1 hown hK hP 0 rfl rfl 0 (by decide) lk0 (fun _ h9 => h9) rfl dX1_count_5 ?_
  refine lv_iload_n hx hb dX1_count_8 rfl (lv_at hl 1 rfl) ?_
  refine lv_iload_n hx hb dX1_count_9 rfl (lv_at hl 2 rfl) ?_
  refine vp_callSl (va_Run.run (va_runS (As := [.int a, .int b]) (rest := [.ref s0, .ref s0]) ⟨hx, hb, hml, hown, hts⟩ (c_X1_pairKey l a b) (va_cwS 2 hts gX1_count_X1_pairKey rfl rfl rfl (by decide +kernel) ⟨Nat.le_of_ble_eq_true rfl, Nat.le_of_ble_eq_true rfl⟩) z_preT rfl rfl hl.1 rfl (lv_room (Nat.le_of_ble_eq_true rfl)) dX1_count_10 ⟨Nat.zero_le _, Nat.zero_le _⟩)) (fun r_1 hr_1 => ?_)
  replace hr_1 := hr_1.symm
  subst hr_1
  refine vp_callSi (va_Run.run (va_runV (As := [.long (pk a b)]) (rest := [.ref s0]) ⟨hx, hb, hml, hown, hts⟩ (c_X0_find l D cI cJ s0 ka va 512 n K V (pk a b) (by omega) (by omega) (by assumption)) (cwV 1 hts gX1_count_X0_find rfl rfl rfl (by decide +kernel) ⟨Nat.le_of_ble_eq_true rfl, Nat.le_of_ble_eq_true rfl⟩) (z_preV hK hP [1, 2, 3] rfl 0 1 rfl rfl) rfl rfl hl.1 rfl (lv_room (Nat.le_of_ble_eq_true rfl)) dX1_count_13 ⟨Nat.zero_le _, Nat.zero_le _⟩)) (fun r_2 hr_2 => ?_)
  rcases hr_2 with ⟨j_3, hj, hje, rfl⟩ | ⟨hnf, rfl⟩
  · have hj31 : j_3 < 2 ^ 31 := by omega
    refine vp_callSl (va_Run.run (va_runV (As := [.int (nI j_3)]) (rest := []) ⟨hx, hb, hml, hown, hts⟩ (c_X0_valueAt l D cI cJ s0 ka va 512 n K V (nI j_3) (by omega) (by omega)) (cwV 1 hts gX1_count_X0_valueAt rfl rfl rfl (by decide +kernel) ⟨Nat.le_of_ble_eq_true rfl, Nat.le_of_ble_eq_true rfl⟩) (z_preV hK hP [1, 2, 3] rfl 0 1 rfl rfl) rfl rfl hl.1 rfl (lv_room (Nat.le_of_ble_eq_true rfl)) dX1_count_16 ⟨Nat.zero_le _, Nat.zero_le _⟩)) (fun r_4 hr_4 => ?_)
    replace hr_4 := hr_4.symm
    subst hr_4
    refine z_topl (y := V j_3) (vAt_N (by omega) (hj)) ?_
    exact W.lret (v := V j_3) hx hb hr (fun t ht hW => ⟨V j_3, rfl, Or.inl ⟨j_3, hj, hje, rfl⟩, ht⟩) (fun _ h => nomatch h) dX1_count_19
  · refine vp_callSl (va_Run.run (va_runV (As := [.int (-1)]) (rest := []) ⟨hx, hb, hml, hown, hts⟩ (c_X0_valueAt l D cI cJ s0 ka va 512 n K V (-1) (by omega) (by omega)) (cwV 1 hts gX1_count_X0_valueAt rfl rfl rfl (by decide +kernel) ⟨Nat.le_of_ble_eq_true rfl, Nat.le_of_ble_eq_true rfl⟩) (z_preV hK hP [1, 2, 3] rfl 0 1 rfl rfl) rfl rfl hl.1 rfl (lv_room (Nat.le_of_ble_eq_true rfl)) dX1_count_16 ⟨Nat.zero_le _, Nat.zero_le _⟩)) (fun r_5 hr_5 => ?_)
    replace hr_5 := hr_5.symm
    subst hr_5
    exact W.lret (v := vAt n V (-1)) hx hb hr (fun t ht hW => ⟨vAt n V (-1), rfl, Or.inr ⟨hnf, vAt_out (m1_out n)⟩, ht⟩) (fun _ h => nomatch h) dX1_count_19

set_option maxHeartbeats 4000000 in
set_option maxRecDepth 100000 in
theorem c_X1_drop (l : Launch) (D : va_G) (cI cJ : ClassId) (x s0 s1 s2 s3 s4 s5 s6 : Nat) (tape turn : Int64) (ka va n : Nat) (K V : Nat → Int64) (hn : n ≤ 512) (hs : Srt n K) (a b : Int32) (sz : Nat) : Met l yX1_drop wsX1_drop { frames := 3, cells := 0, slots := 0, locals := 71 } (va_Pc [.ref x, .int a, .int b] (wP D cI cJ [(x, .inr (1, [.ref s0, .ref s1, .ref s2, .ref s3, .ref s4, .ref s5, .ref s6, .long tape, .long turn])), (s0, .inr (0, [.ref ka, .ref va, .int (nI n)])), (ka, .inl (cJ, 512, .inr (.inl K))), (va, .inl (cJ, 512, .inr (.inl V)))] sz)) (va_Ql (fun r (u : SS) => DrR n K V (pk a b) r u) (wB D cI cJ (va_A [(x, .inr (1, [.ref s0, .ref s1, .ref s2, .ref s3, .ref s4, .ref s5, .ref s6, .long tape, .long turn])), (s0, .inr (0, [.ref ka, .ref va, .int (nI n)])), (ka, .inl (cJ, 512, .inr (.inl K))), (va, .inl (cJ, 512, .inr (.inl V)))] sz) (fun (n', K', V') => [(x, .inr (1, [.ref s0, .ref s1, .ref s2, .ref s3, .ref s4, .ref s5, .ref s6, .long tape, .long turn])), (s0, .inr (0, [.ref ka, .ref va, .int (nI n')])), (ka, .inl (cJ, 512, .inr (.inl K'))), (va, .inl (cJ, 512, .inr (.inl V')))])) (va_A [(x, .inr (1, [.ref s0, .ref s1, .ref s2, .ref s3, .ref s4, .ref s5, .ref s6, .long tape, .long turn])), (s0, .inr (0, [.ref ka, .ref va, .int (nI n)])), (ka, .inl (cJ, 512, .inr (.inl K))), (va, .inl (cJ, 512, .inr (.inl V)))] sz)) 0 0 (va_A [(x, .inr (1, [.ref s0, .ref s1, .ref s2, .ref s3, .ref s4, .ref s5, .ref s6, .long tape, .long turn])), (s0, .inr (0, [.ref ka, .ref va, .int (nI n)])), (ka, .inl (cJ, 512, .inr (.inl K))), (va, .inl (cJ, 512, .inr (.inl V)))] sz) := by
  refine Met.ofW (cc := cX1_drop) (maxL := 3) (ret := (some .long)) (by decide) rfl ?_
  intro p e s m args below meth c s₁ B hml hv
  obtain ⟨rfl, hsz, hP, hK, hD0⟩ := hv
  have hx := B.exec
  have hb := B.bytes
  have hr := B.returns
  have hts := atoms_spec (ws := wsX1_drop) B.pre
  have hown : s.vm.findClass RX1 = some m.cls := findClass_of_methodNamed B.named
  have hlocks := B.notSynchronized
  have lk0 := hts (.fieldLink RX1 14 "KeyHall" "counts" "LKeyHall$Sorted;") (by decide +kernel)
  have lk1 : ∀ w ∈ wsX10, w ∈ wsX1_drop := by decide +kernel
  subst hsz
  have hD := hD0.self (sz := s.heap.size)
  generalize hAe : va_A [(x, .inr (1, [.ref s0, .ref s1, .ref s2, .ref s3, .ref s4, .ref s5, .ref s6, .long tape, .long turn])), (s0, .inr (0, [.ref ka, .ref va, .int (nI n)])), (ka, .inl (cJ, 512, .inr (.inl K))), (va, .inl (cJ, 512, .inr (.inl V)))] s.heap.size = A at hD ⊢
  have hA : ∀ q : Nat, s.heap.size ≤ q → A q := fun q h => by rw [← hAe]; exact Or.inr h
  have hS : va_S A s.heap s.heap [] := va_S.rf
  have hP : va_P D vwCl [(x, .inr (1, [.ref s0, .ref s1, .ref s2, .ref s3, .ref s4, .ref s5, .ref s6, .long tape, .long turn])), (s0, .inr (0, [.ref ka, .ref va, .int (nI n)])), (ka, .inl (cJ, 512, .inr (.inl K))), (va, .inl (cJ, 512, .inr (.inl V)))] s.heap := hP
  have hl := lv_entry ([.ref x, .int a, .int b]) (n := 3) (Nat.le_of_ble_eq_true rfl)
  rw [lg_entry_eq]
  generalize (lg_sl ([.ref x, .int a, .int b]) ++ List.replicate (3 - (lg_sl ([.ref x, .int a, .int b])).length) Slot.unset).toArray = ls at hl ⊢
  have hl : lv_has ls 3 [(0, .ref x), (1, .int a), (2, .int b)] := hl
  refine lv_aload_n hx hb dX1_drop_0 rfl (lv_at hl 0 rfl) ?_
  refine va_get (D := D) (ci := 1) (v := .ref s0) (C := RX1) (T := TX1) (N := 9) hx hb hts lk1 hown hK hP 0 rfl rfl 0 (by decide) lk0 (fun _ h9 => h9) rfl dX1_drop_1 ?_
  refine lv_aload_n hx hb dX1_drop_4 rfl (lv_at hl 0 rfl) ?_
  refine va_get (D := D) (ci := 1) (v := .ref s0) (C := RX1) (T := TX1) (N := 9) hx hb hts lk1 hown hK hP 0 rfl rfl 0 (by decide) lk0 (fun _ h9 => h9) rfl dX1_drop_5 ?_
  refine lv_iload_n hx hb dX1_drop_8 rfl (lv_at hl 1 rfl) ?_
  refine lv_iload_n hx hb dX1_drop_9 rfl (lv_at hl 2 rfl) ?_
  refine vp_callSl (va_Run.run (va_runS (As := [.int a, .int b]) (rest := [.ref s0, .ref s0]) ⟨hx, hb, hml, hown, hts⟩ (c_X1_pairKey l a b) (va_cwS 2 hts gX1_drop_X1_pairKey rfl rfl rfl (by decide +kernel) ⟨Nat.le_of_ble_eq_true rfl, Nat.le_of_ble_eq_true rfl⟩) z_preT rfl rfl hl.1 rfl (lv_room (Nat.le_of_ble_eq_true rfl)) dX1_drop_10 ⟨Nat.zero_le _, Nat.zero_le _⟩)) (fun r_1 hr_1 => ?_)
  replace hr_1 := hr_1.symm
  subst hr_1
  refine vp_callSi (va_Run.run (va_runV (As := [.long (pk a b)]) (rest := [.ref s0]) ⟨hx, hb, hml, hown, hts⟩ (c_X0_find l D cI cJ s0 ka va 512 n K V (pk a b) (by omega) (by omega) (by assumption)) (cwV 1 hts gX1_drop_X0_find rfl rfl rfl (by decide +kernel) ⟨Nat.le_of_ble_eq_true rfl, Nat.le_of_ble_eq_true rfl⟩) (z_preV hK hP [1, 2, 3] rfl 0 1 rfl rfl) rfl rfl hl.1 rfl (lv_room (Nat.le_of_ble_eq_true rfl)) dX1_drop_13 ⟨Nat.zero_le _, Nat.zero_le _⟩)) (fun r_2 hr_2 => ?_)
  rcases hr_2 with ⟨j_3, hj, hje, rfl⟩ | ⟨hnf, rfl⟩
  · have hj31 : j_3 < 2 ^ 31 := by omega
    have hFc := va_free (wc := [(s0, .inr (0, [.ref ka, .ref va, .int (nI n)])), (ka, .inl (cJ, 512, .inr (.inl K))), (va, .inl (cJ, 512, .inr (.inl V)))]) hD hS hA [1, 2, 3] rfl
    refine va_calll (va_runV (As := [.int (nI j_3)]) (rest := []) ⟨hx, hb, hml, hown, hts⟩ (c_X0_takeAt l D cI cJ s0 ka va 512 n K V (nI j_3) (by omega) (by omega) (by first | exact Or.inl rfl | exact Or.inr ⟨_, by omega, rfl⟩) s.heap.size) (cwV 1 hts gX1_drop_X0_takeAt rfl rfl rfl (by decide +kernel) ⟨Nat.le_of_ble_eq_true rfl, Nat.le_of_ble_eq_true rfl⟩) (z_preVw hK hP hD [1, 2, 3] (by decide) rfl rfl 0 1 rfl rfl) rfl rfl hl.1 rfl (lv_room (Nat.le_of_ble_eq_true rfl)) dX1_drop_16 ⟨Nat.zero_le _, Nat.zero_le _⟩) hS (fun q _ h => hFc q h) hFc (fun r_5 u_4 t H1 locs ht hvm hr_5 hB hzz1 hkk1 hS => ?_)
    obtain ⟨n6, K6, V6⟩ := u_4
    obtain ⟨hP1, hK1, hD1⟩ := hB
    rw [ht] at hP1
    try dsimp only at hr_5
    obtain ⟨hP, hD⟩ := va_join (wr := [(x, .inr (1, [.ref s0, .ref s1, .ref s2, .ref s3, .ref s4, .ref s5, .ref s6, .long tape, .long turn]))]) (w1 := [(s0, .inr (0, [.ref ka, .ref va, .int (nI n6)])), (ka, .inl (cJ, 512, .inr (.inl K6))), (va, .inl (cJ, 512, .inr (.inl V6)))]) hP hD [1, 2, 3] [0] rfl rfl (by decide) (by decide) hkk1 hFc hP1 hD1
    generalize H1 = H at hP hS ⊢
    have hP : va_P D vwCl [(x, .inr (1, [.ref s0, .ref s1, .ref s2, .ref s3, .ref s4, .ref s5, .ref s6, .long tape, .long turn])), (s0, .inr (0, [.ref ka, .ref va, .int (nI n6)])), (ka, .inl (cJ, 512, .inr (.inl K6))), (va, .inl (cJ, 512, .inr (.inl V6)))] H := hP.sub [0, 1, 2, 3] rfl
    have hD : va_D A [(x, .inr (1, [.ref s0, .ref s1, .ref s2, .ref s3, .ref s4, .ref s5, .ref s6, .long tape, .long turn])), (s0, .inr (0, [.ref ka, .ref va, .int (nI n6)])), (ka, .inl (cJ, 512, .inr (.inl K6))), (va, .inl (cJ, 512, .inr (.inl V6)))] := hD.sub [0, 1, 2, 3] (by decide) rfl
    exact W.lret (v := r_5) hx hb hr (fun t ht hW => ⟨⟨r_5, (n6, K6, V6), rfl, Or.inl ⟨j_3, hj, hje, hr_5.inn hj (by omega)⟩, by rw [ht]; exact hP, va_K.moved hW.alike hK, hD⟩, hS.F ht⟩) hS.2.2 dX1_drop_19
  · have hFc := va_free (wc := [(s0, .inr (0, [.ref ka, .ref va, .int (nI n)])), (ka, .inl (cJ, 512, .inr (.inl K))), (va, .inl (cJ, 512, .inr (.inl V)))]) hD hS hA [1, 2, 3] rfl
    refine va_calll (va_runV (As := [.int (-1)]) (rest := []) ⟨hx, hb, hml, hown, hts⟩ (c_X0_takeAt l D cI cJ s0 ka va 512 n K V (-1) (by omega) (by omega) (by first | exact Or.inl rfl | exact Or.inr ⟨_, by omega, rfl⟩) s.heap.size) (cwV 1 hts gX1_drop_X0_takeAt rfl rfl rfl (by decide +kernel) ⟨Nat.le_of_ble_eq_true rfl, Nat.le_of_ble_eq_true rfl⟩) (z_preVw hK hP hD [1, 2, 3] (by decide) rfl rfl 0 1 rfl rfl) rfl rfl hl.1 rfl (lv_room (Nat.le_of_ble_eq_true rfl)) dX1_drop_16 ⟨Nat.zero_le _, Nat.zero_le _⟩) hS (fun q _ h => hFc q h) hFc (fun r_8 u_7 t H1 locs ht hvm hr_8 hB hzz1 hkk1 hS => ?_)
    obtain ⟨n9, K9, V9⟩ := u_7
    obtain ⟨hP1, hK1, hD1⟩ := hB
    rw [ht] at hP1
    try dsimp only at hr_8
    obtain ⟨hP, hD⟩ := va_join (wr := [(x, .inr (1, [.ref s0, .ref s1, .ref s2, .ref s3, .ref s4, .ref s5, .ref s6, .long tape, .long turn]))]) (w1 := [(s0, .inr (0, [.ref ka, .ref va, .int (nI n9)])), (ka, .inl (cJ, 512, .inr (.inl K9))), (va, .inl (cJ, 512, .inr (.inl V9)))]) hP hD [1, 2, 3] [0] rfl rfl (by decide) (by decide) hkk1 hFc hP1 hD1
    generalize H1 = H at hP hS ⊢
    have hP : va_P D vwCl [(x, .inr (1, [.ref s0, .ref s1, .ref s2, .ref s3, .ref s4, .ref s5, .ref s6, .long tape, .long turn])), (s0, .inr (0, [.ref ka, .ref va, .int (nI n9)])), (ka, .inl (cJ, 512, .inr (.inl K9))), (va, .inl (cJ, 512, .inr (.inl V9)))] H := hP.sub [0, 1, 2, 3] rfl
    have hD : va_D A [(x, .inr (1, [.ref s0, .ref s1, .ref s2, .ref s3, .ref s4, .ref s5, .ref s6, .long tape, .long turn])), (s0, .inr (0, [.ref ka, .ref va, .int (nI n9)])), (ka, .inl (cJ, 512, .inr (.inl K9))), (va, .inl (cJ, 512, .inr (.inl V9)))] := hD.sub [0, 1, 2, 3] (by decide) rfl
    exact W.lret (v := r_8) hx hb hr (fun t ht hW => ⟨⟨r_8, (n9, K9, V9), rfl, Or.inr ⟨hnf, hr_8.out (m1_out n) (by omega)⟩, by rw [ht]; exact hP, va_K.moved hW.alike hK, hD⟩, hS.F ht⟩) hS.2.2 dX1_drop_19

set_option maxHeartbeats 4000000 in
set_option maxRecDepth 100000 in
theorem c_X1_total (l : Launch) (D : va_G) (cI cJ : ClassId) (x s0 s1 s2 s3 s4 s5 s6 : Nat) (tape turn : Int64) (ka va n : Nat) (K V : Nat → Int64) (hn : n ≤ 512) : Met l yX1_total wsX1_total { frames := 2, cells := 0, slots := 0, locals := 42 } (va_Pc [.ref x] (rP D cI cJ [(x, .inr (1, [.ref s0, .ref s1, .ref s2, .ref s3, .ref s4, .ref s5, .ref s6, .long tape, .long turn])), (s0, .inr (0, [.ref ka, .ref va, .int (nI n)])), (ka, .inl (cJ, 512, .inr (.inl K))), (va, .inl (cJ, 512, .inr (.inl V)))])) (vp_Sl (fun r => r = tot K V n)) 0 0 (fun _ => False) := by
  refine Met.ofW (cc := cX1_total) (maxL := 6) (ret := (some .long)) (by decide) rfl ?_
  intro p e s m args below meth c s₁ B hml hv
  obtain ⟨rfl, hP, hK⟩ := hv
  have hx := B.exec
  have hb := B.bytes
  have hr := B.returns
  have hts := atoms_spec (ws := wsX1_total) B.pre
  have hown : s.vm.findClass RX1 = some m.cls := findClass_of_methodNamed B.named
  have hlocks := B.notSynchronized
  have lk0 := hts (.fieldLink RX1 14 "KeyHall" "counts" "LKeyHall$Sorted;") (by decide +kernel)
  have lk1 : ∀ w ∈ wsX10, w ∈ wsX1_total := by decide +kernel
  have lk2 := hts (.constantLong RX1 69 (31)) (by decide +kernel)
  have hl := lv_entry ([.ref x]) (n := 6) (Nat.le_of_ble_eq_true rfl)
  rw [lg_entry_eq]
  generalize (lg_sl ([.ref x]) ++ List.replicate (6 - (lg_sl ([.ref x])).length) Slot.unset).toArray = ls at hl ⊢
  have hl : lv_has ls 6 [(0, .ref x)] := hl
  refine lv_lconst (v := 0) hx hb dX1_total_0 (by decide) ?_
  refine lv_lstore_n (lv' := [(1, .long 0), (0, .ref x)]) hx hb dX1_total_1 rfl hl (by decide) rfl (fun ls hl => ?_)
  refine lv_iconst (v := nI 0) hx hb dX1_total_2 (by decide) ?_
  refine lv_istore_n (lv' := [(3, .int (nI 0)), (1, .long 0), (0, .ref x)]) hx hb dX1_total_3 rfl hl (by decide) rfl (fun ls hl => ?_)
  refine z_loop (σ := Nat) (fun i => n - i) (fun i ls => lv_has ls 6 [(0, .ref x), (1, .long (tot K V i)), (3, .int (nI i))] ∧ (i ≤ n)) ?_ (0) _ ⟨lv_sub hl [2, 1, 0] rfl, Nat.zero_le _⟩
  rintro i ls ⟨hl, hi⟩ ih
  have hl : lv_has ls 6 [(0, .ref x), (1, .long (tot K V i)), (3, .int (nI i))] := hl
  refine lv_iload_n hx hb dX1_total_4 rfl (lv_at hl 2 rfl) ?_
  refine lv_aload_n hx hb dX1_total_5 rfl (lv_at hl 0 rfl) ?_
  refine va_get (D := D) (ci := 1) (v := .ref s0) (C := RX1) (T := TX1) (N := 9) hx hb hts lk1 hown hK hP 0 rfl rfl 0 (by decide) lk0 (fun _ h9 => h9) rfl dX1_total_6 ?_
  refine vp_callSi (va_Run.run (va_runV (As := []) (rest := [.int (nI i)]) ⟨hx, hb, hml, hown, hts⟩ (c_X0_held l D cI cJ s0 ka va 512 n K V  ) (cwV 0 hts gX1_total_X0_held rfl rfl rfl (by decide +kernel) ⟨Nat.le_of_ble_eq_true rfl, Nat.le_of_ble_eq_true rfl⟩) (z_preV hK hP [1, 2, 3] rfl 0 1 rfl rfl) rfl rfl hl.1 rfl (lv_room (Nat.le_of_ble_eq_true rfl)) dX1_total_9 ⟨Nat.zero_le _, Nat.zero_le _⟩)) (fun r_1 hr_1 => ?_)
  replace hr_1 := hr_1.symm
  subst hr_1
  refine z_icmp_ge (tgt := 60) hx hb dX1_total_12 (by decide) (by omega) (by omega) (fun c_12 => ?_) (fun c_12 => ?_)
  · refine lv_lload_n hx hb dX1_total_60 rfl (lv_at hl 1 rfl) ?_
    exact W.lret (v := tot K V i) hx hb hr (fun t ht hW => ⟨tot K V i, rfl, by rw [Nat.le_antisymm hi c_12], ht⟩) (fun _ h => nomatch h) dX1_total_61
  · refine lv_aload_n hx hb dX1_total_15 rfl (lv_at hl 0 rfl) ?_
    refine va_get (D := D) (ci := 1) (v := .ref s0) (C := RX1) (T := TX1) (N := 9) hx hb hts lk1 hown hK hP 0 rfl rfl 0 (by decide) lk0 (fun _ h9 => h9) rfl dX1_total_16 ?_
    refine lv_iload_n hx hb dX1_total_19 rfl (lv_at hl 2 rfl) ?_
    refine vp_callSl (va_Run.run (va_runV (As := [.int (nI i)]) (rest := []) ⟨hx, hb, hml, hown, hts⟩ (c_X0_keyAt l D cI cJ s0 ka va 512 n K V (nI i) (by omega) (by omega)) (cwV 1 hts gX1_total_X0_keyAt rfl rfl rfl (by decide +kernel) ⟨Nat.le_of_ble_eq_true rfl, Nat.le_of_ble_eq_true rfl⟩) (z_preV hK hP [1, 2, 3] rfl 0 1 rfl rfl) rfl rfl hl.1 rfl (lv_room (Nat.le_of_ble_eq_true rfl)) dX1_total_20 ⟨Nat.zero_le _, Nat.zero_le _⟩)) (fun r_2 hr_2 => ?_)
    replace hr_2 := hr_2.symm
    subst hr_2
    refine z_topl (y := K i) (vAt_N (by omega) (by omega)) ?_
    refine lv_lstore (lv' := [(4, .long (K i)), (0, .ref x), (1, .long (tot K V i)), (3, .int (nI i))]) hx hb dX1_total_23 hl (by decide) rfl (fun ls hl => ?_)
    refine lv_lload_n hx hb dX1_total_25 rfl (lv_at hl 2 rfl) ?_
    refine lv_ldc2 hx hb hown lk2 dX1_total_26 ?_
    refine lv_lload hx hb dX1_total_29 (lv_at hl 0 rfl) ?_
    refine vp_callSi (va_Run.run (va_runS (As := [.long (K i)]) (rest := [.long 31, .long (tot K V i)]) ⟨hx, hb, hml, hown, hts⟩ (c_X1_firstOf l (K i)) (va_cwS 1 hts gX1_total_X1_firstOf rfl rfl rfl (by decide +kernel) ⟨Nat.le_of_ble_eq_true rfl, Nat.le_of_ble_eq_true rfl⟩) z_preT rfl rfl hl.1 rfl (lv_room (Nat.le_of_ble_eq_true rfl)) dX1_total_31 ⟨Nat.zero_le _, Nat.zero_le _⟩)) (fun r_3 hr_3 => ?_)
    replace hr_3 := hr_3.symm
    subst hr_3
    refine lv_i2l (v := (fsK (K i)).toInt64) hx hb dX1_total_34 rfl ?_
    refine lv_lmul hx hb dX1_total_35 ?_
    refine lv_lload hx hb dX1_total_36 (lv_at hl 0 rfl) ?_
    refine vp_callSi (va_Run.run (va_runS (As := [.long (K i)]) (rest := [.long (31 * ((fsK (K i)).toInt64)), .long (tot K V i)]) ⟨hx, hb, hml, hown, hts⟩ (c_X1_secondOf l (K i)) (va_cwS 1 hts gX1_total_X1_secondOf rfl rfl rfl (by decide +kernel) ⟨Nat.le_of_ble_eq_true rfl, Nat.le_of_ble_eq_true rfl⟩) z_preT rfl rfl hl.1 rfl (lv_room (Nat.le_of_ble_eq_true rfl)) dX1_total_38 ⟨Nat.zero_le _, Nat.zero_le _⟩)) (fun r_4 hr_4 => ?_)
    replace hr_4 := hr_4.symm
    subst hr_4
    refine lv_i2l (v := (snK (K i)).toInt64) hx hb dX1_total_41 rfl ?_
    refine lv_ladd hx hb dX1_total_42 ?_
    refine lv_aload_n hx hb dX1_total_43 rfl (lv_at hl 1 rfl) ?_
    refine va_get (D := D) (ci := 1) (v := .ref s0) (C := RX1) (T := TX1) (N := 9) hx hb hts lk1 hown hK hP 0 rfl rfl 0 (by decide) lk0 (fun _ h9 => h9) rfl dX1_total_44 ?_
    refine lv_iload_n hx hb dX1_total_47 rfl (lv_at hl 3 rfl) ?_
    refine vp_callSl (va_Run.run (va_runV (As := [.int (nI i)]) (rest := [.long ((31 * ((fsK (K i)).toInt64)) + ((snK (K i)).toInt64)), .long (tot K V i)]) ⟨hx, hb, hml, hown, hts⟩ (c_X0_valueAt l D cI cJ s0 ka va 512 n K V (nI i) (by omega) (by omega)) (cwV 1 hts gX1_total_X0_valueAt rfl rfl rfl (by decide +kernel) ⟨Nat.le_of_ble_eq_true rfl, Nat.le_of_ble_eq_true rfl⟩) (z_preV hK hP [1, 2, 3] rfl 0 1 rfl rfl) rfl rfl hl.1 rfl (lv_room (Nat.le_of_ble_eq_true rfl)) dX1_total_48 ⟨Nat.zero_le _, Nat.zero_le _⟩)) (fun r_5 hr_5 => ?_)
    replace hr_5 := hr_5.symm
    subst hr_5
    refine z_topl (y := V i) (vAt_N (by omega) (by omega)) ?_
    refine lv_lmul hx hb dX1_total_51 ?_
    refine lv_ladd hx hb dX1_total_52 ?_
    refine lv_lstore_n (lv' := [(1, .long ((tot K V i) + (((31 * ((fsK (K i)).toInt64)) + ((snK (K i)).toInt64)) * (V i)))), (4, .long (K i)), (0, .ref x), (3, .int (nI i))]) hx hb dX1_total_53 rfl hl (by decide) rfl (fun ls hl => ?_)
    refine lv_iinc (v := nI (i + 1)) (lv' := [(3, .int (nI (i + 1))), (1, .long ((tot K V i) + (((31 * ((fsK (K i)).toInt64)) + ((snK (K i)).toInt64)) * (V i)))), (4, .long (K i)), (0, .ref x)]) hx hb dX1_total_54 hl (k := 3) rfl (nI_add i 1) (by decide) rfl (fun ls hl => ?_)
    refine lv_goto (tgt := 4) hx hb dX1_total_57 (by decide) ?_
    exact ih (i + 1) _ ⟨lv_sub hl [3, 1, 0] rfl, by omega⟩ (by first | omega | (dsimp only; omega))

set_option maxHeartbeats 4000000 in
set_option maxRecDepth 100000 in
theorem c_X1_sweep (l : Launch) (D : va_G) (cI cJ : ClassId) (x s0 s1 s2 s3 s4 s5 s6 : Nat) (tape turn : Int64) (ka va n : Nat) (K V : Nat → Int64) (hn : n ≤ 512) (sz : Nat) : Met l yX1_sweep wsX1_sweep { frames := 2, cells := 0, slots := 0, locals := 43 } (va_Pc [.ref x] (wP D cI cJ [(x, .inr (1, [.ref s0, .ref s1, .ref s2, .ref s3, .ref s4, .ref s5, .ref s6, .long tape, .long turn])), (s0, .inr (0, [.ref ka, .ref va, .int (nI n)])), (ka, .inl (cJ, 512, .inr (.inl K))), (va, .inl (cJ, 512, .inr (.inl V)))] sz)) (va_Qi (fun r (u : SS) => u = ((cmpF (fun k _ => pB (¬ evK k)) K V n).1, (cmpF (fun k _ => pB (¬ evK k)) K V n).2.1, (cmpF (fun k _ => pB (¬ evK k)) K V n).2.2) ∧ r = nI (n - (cmpF (fun k _ => pB (¬ evK k)) K V n).1)) (wB D cI cJ (va_A [(x, .inr (1, [.ref s0, .ref s1, .ref s2, .ref s3, .ref s4, .ref s5, .ref s6, .long tape, .long turn])), (s0, .inr (0, [.ref ka, .ref va, .int (nI n)])), (ka, .inl (cJ, 512, .inr (.inl K))), (va, .inl (cJ, 512, .inr (.inl V)))] sz) (fun (n', K', V') => [(x, .inr (1, [.ref s0, .ref s1, .ref s2, .ref s3, .ref s4, .ref s5, .ref s6, .long tape, .long turn])), (s0, .inr (0, [.ref ka, .ref va, .int (nI n')])), (ka, .inl (cJ, 512, .inr (.inl K'))), (va, .inl (cJ, 512, .inr (.inl V')))])) (va_A [(x, .inr (1, [.ref s0, .ref s1, .ref s2, .ref s3, .ref s4, .ref s5, .ref s6, .long tape, .long turn])), (s0, .inr (0, [.ref ka, .ref va, .int (nI n)])), (ka, .inl (cJ, 512, .inr (.inl K))), (va, .inl (cJ, 512, .inr (.inl V)))] sz)) 0 0 (va_A [(x, .inr (1, [.ref s0, .ref s1, .ref s2, .ref s3, .ref s4, .ref s5, .ref s6, .long tape, .long turn])), (s0, .inr (0, [.ref ka, .ref va, .int (nI n)])), (ka, .inl (cJ, 512, .inr (.inl K))), (va, .inl (cJ, 512, .inr (.inl V)))] sz) := by
  refine Met.ofW (cc := cX1_sweep) (maxL := 4) (ret := (some .int)) (by decide) rfl ?_
  intro p e s m args below meth c s₁ B hml hv
  obtain ⟨rfl, hsz, hP, hK, hD0⟩ := hv
  have hx := B.exec
  have hb := B.bytes
  have hr := B.returns
  have hts := atoms_spec (ws := wsX1_sweep) B.pre
  have hown : s.vm.findClass RX1 = some m.cls := findClass_of_methodNamed B.named
  have hlocks := B.notSynchronized
  have lk0 := hts (.fieldLink RX1 14 "KeyHall" "counts" "LKeyHall$Sorted;") (by decide +kernel)
  have lk1 : ∀ w ∈ wsX10, w ∈ wsX1_sweep := by decide +kernel
  subst hsz
  have hD := hD0.self (sz := s.heap.size)
  generalize hAe : va_A [(x, .inr (1, [.ref s0, .ref s1, .ref s2, .ref s3, .ref s4, .ref s5, .ref s6, .long tape, .long turn])), (s0, .inr (0, [.ref ka, .ref va, .int (nI n)])), (ka, .inl (cJ, 512, .inr (.inl K))), (va, .inl (cJ, 512, .inr (.inl V)))] s.heap.size = A at hD ⊢
  have hA : ∀ q : Nat, s.heap.size ≤ q → A q := fun q h => by rw [← hAe]; exact Or.inr h
  have hS : va_S A s.heap s.heap [] := va_S.rf
  have hP : va_P D vwCl [(x, .inr (1, [.ref s0, .ref s1, .ref s2, .ref s3, .ref s4, .ref s5, .ref s6, .long tape, .long turn])), (s0, .inr (0, [.ref ka, .ref va, .int (nI n)])), (ka, .inl (cJ, 512, .inr (.inl K))), (va, .inl (cJ, 512, .inr (.inl V)))] s.heap := hP
  have hl := lv_entry ([.ref x]) (n := 4) (Nat.le_of_ble_eq_true rfl)
  rw [lg_entry_eq]
  generalize (lg_sl ([.ref x]) ++ List.replicate (4 - (lg_sl ([.ref x])).length) Slot.unset).toArray = ls at hl ⊢
  have hl : lv_has ls 4 [(0, .ref x)] := hl
  refine lv_aload_n hx hb dX1_sweep_0 rfl (lv_at hl 0 rfl) ?_
  refine va_get (D := D) (ci := 1) (v := .ref s0) (C := RX1) (T := TX1) (N := 9) hx hb hts lk1 hown hK hP 0 rfl rfl 0 (by decide) lk0 (fun _ h9 => h9) rfl dX1_sweep_1 ?_
  refine vp_callSi (va_Run.run (va_runV (As := []) (rest := []) ⟨hx, hb, hml, hown, hts⟩ (c_X0_held l D cI cJ s0 ka va 512 n K V  ) (cwV 0 hts gX1_sweep_X0_held rfl rfl rfl (by decide +kernel) ⟨Nat.le_of_ble_eq_true rfl, Nat.le_of_ble_eq_true rfl⟩) (z_preV hK hP [1, 2, 3] rfl 0 1 rfl rfl) rfl rfl hl.1 rfl (lv_room (Nat.le_of_ble_eq_true rfl)) dX1_sweep_4 ⟨Nat.zero_le _, Nat.zero_le _⟩)) (fun r_1 hr_1 => ?_)
  replace hr_1 := hr_1.symm
  subst hr_1
  refine lv_istore_n (lv' := [(1, .int (nI n)), (0, .ref x)]) hx hb dX1_sweep_7 rfl hl (by decide) rfl (fun ls hl => ?_)
  refine lv_iconst (v := nI 0) hx hb dX1_sweep_8 (by decide) ?_
  refine lv_istore_n (lv' := [(2, .int (nI 0)), (1, .int (nI n)), (0, .ref x)]) hx hb dX1_sweep_9 rfl hl (by decide) rfl (fun ls hl => ?_)
  refine lv_iconst (v := nI 0) hx hb dX1_sweep_10 (by decide) ?_
  refine lv_istore_n (lv' := [(3, .int (nI 0)), (2, .int (nI 0)), (1, .int (nI n)), (0, .ref x)]) hx hb dX1_sweep_11 rfl hl (by decide) rfl (fun ls hl => ?_)
  refine z_loopw (σ := Nat) (fun i => n - i) (fun i H locs ls => va_P D vwCl [(x, .inr (1, [.ref s0, .ref s1, .ref s2, .ref s3, .ref s4, .ref s5, .ref s6, .long tape, .long turn])), (s0, .inr (0, [.ref ka, .ref va, .int (nI n)])), (ka, .inl (cJ, 512, .inr (.inl ((cmpF (fun k _ => pB (¬ evK k)) K V i).2.1)))), (va, .inl (cJ, 512, .inr (.inl ((cmpF (fun k _ => pB (¬ evK k)) K V i).2.2))))] H ∧ va_D A [(x, .inr (1, [.ref s0, .ref s1, .ref s2, .ref s3, .ref s4, .ref s5, .ref s6, .long tape, .long turn])), (s0, .inr (0, [.ref ka, .ref va, .int (nI n)])), (ka, .inl (cJ, 512, .inr (.inl ((cmpF (fun k _ => pB (¬ evK k)) K V i).2.1)))), (va, .inl (cJ, 512, .inr (.inl ((cmpF (fun k _ => pB (¬ evK k)) K V i).2.2))))] ∧ va_S A s.heap H locs ∧ lv_has ls 4 [(0, .ref x), (1, .int (nI n)), (2, .int (nI ((cmpF (fun k _ => pB (¬ evK k)) K V i).1))), (3, .int (nI i))] ∧ (i ≤ n)) ?_ (0) _ _ _ ⟨hP, hD, hS, lv_sub hl [3, 2, 1, 0] rfl, Nat.zero_le _⟩
  rintro i H locs ls ⟨hP, hD, hS, hl, hi⟩ ih
  have hP : va_P D vwCl [(x, .inr (1, [.ref s0, .ref s1, .ref s2, .ref s3, .ref s4, .ref s5, .ref s6, .long tape, .long turn])), (s0, .inr (0, [.ref ka, .ref va, .int (nI n)])), (ka, .inl (cJ, 512, .inr (.inl ((cmpF (fun k _ => pB (¬ evK k)) K V i).2.1)))), (va, .inl (cJ, 512, .inr (.inl ((cmpF (fun k _ => pB (¬ evK k)) K V i).2.2))))] H := hP
  have hl : lv_has ls 4 [(0, .ref x), (1, .int (nI n)), (2, .int (nI ((cmpF (fun k _ => pB (¬ evK k)) K V i).1))), (3, .int (nI i))] := hl
  have hcl := cmpF_le (fun k _ => pB (¬ evK k)) K V i
  refine lv_iload_n hx hb dX1_sweep_12 rfl (lv_at hl 3 rfl) ?_
  refine lv_iload_n hx hb dX1_sweep_13 rfl (lv_at hl 1 rfl) ?_
  refine z_icmp_ge (tgt := 49) hx hb dX1_sweep_14 (by decide) (by omega) (by omega) (fun c_14 => ?_) (fun c_14 => ?_)
  · have hin : i = n := Nat.le_antisymm hi c_14
    rw [hin] at hP hD hl hcl
    refine lv_aload_n hx hb dX1_sweep_49 rfl (lv_at hl 0 rfl) ?_
    refine va_get (D := D) (ci := 1) (v := .ref s0) (C := RX1) (T := TX1) (N := 9) hx hb hts lk1 hown hK hP 0 rfl rfl 0 (by decide) lk0 (fun _ h9 => h9) rfl dX1_sweep_50 ?_
    refine lv_iload_n hx hb dX1_sweep_53 rfl (lv_at hl 2 rfl) ?_
    have hFc := va_free (wc := [(s0, .inr (0, [.ref ka, .ref va, .int (nI n)])), (ka, .inl (cJ, 512, .inr (.inl ((cmpF (fun k _ => pB (¬ evK k)) K V n).2.1)))), (va, .inl (cJ, 512, .inr (.inl ((cmpF (fun k _ => pB (¬ evK k)) K V n).2.2))))]) hD hS hA [1, 2, 3] rfl
    refine va_callv (va_runV (As := [.int (nI ((cmpF (fun k _ => pB (¬ evK k)) K V n).1))]) (rest := []) ⟨hx, hb, hml, hown, hts⟩ (c_X0_shorten l D cI cJ s0 ka va 512 n ((cmpF (fun k _ => pB (¬ evK k)) K V n).2.1) ((cmpF (fun k _ => pB (¬ evK k)) K V n).2.2) ((cmpF (fun k _ => pB (¬ evK k)) K V n).1) (by omega) (by omega) (by omega) H.size) (cwV 1 hts gX1_sweep_X0_shorten rfl rfl rfl (by decide +kernel) ⟨Nat.le_of_ble_eq_true rfl, Nat.le_of_ble_eq_true rfl⟩) (z_preVw hK hP hD [1, 2, 3] (by decide) rfl rfl 0 1 rfl rfl) rfl rfl hl.1 rfl (lv_room (Nat.le_of_ble_eq_true rfl)) dX1_sweep_54 ⟨Nat.zero_le _, Nat.zero_le _⟩) hS (fun q _ h => hFc q h) hFc (fun u_2 t H1 locs ht hvm hr_3 hB hzz1 hkk1 hS => ?_)
    obtain ⟨n4, K4, V4⟩ := u_2
    obtain ⟨hP1, hK1, hD1⟩ := hB
    rw [ht] at hP1
    try dsimp only at hr_3
    obtain ⟨hP, hD⟩ := va_join (wr := [(x, .inr (1, [.ref s0, .ref s1, .ref s2, .ref s3, .ref s4, .ref s5, .ref s6, .long tape, .long turn]))]) (w1 := [(s0, .inr (0, [.ref ka, .ref va, .int (nI n4)])), (ka, .inl (cJ, 512, .inr (.inl K4))), (va, .inl (cJ, 512, .inr (.inl V4)))]) hP hD [1, 2, 3] [0] rfl rfl (by decide) (by decide) hkk1 hFc hP1 hD1
    generalize H1 = H at hP hS ⊢
    have hP : va_P D vwCl [(x, .inr (1, [.ref s0, .ref s1, .ref s2, .ref s3, .ref s4, .ref s5, .ref s6, .long tape, .long turn])), (s0, .inr (0, [.ref ka, .ref va, .int (nI n4)])), (ka, .inl (cJ, 512, .inr (.inl K4))), (va, .inl (cJ, 512, .inr (.inl V4)))] H := hP.sub [0, 1, 2, 3] rfl
    have hD : va_D A [(x, .inr (1, [.ref s0, .ref s1, .ref s2, .ref s3, .ref s4, .ref s5, .ref s6, .long tape, .long turn])), (s0, .inr (0, [.ref ka, .ref va, .int (nI n4)])), (ka, .inl (cJ, 512, .inr (.inl K4))), (va, .inl (cJ, 512, .inr (.inl V4)))] := hD.sub [0, 1, 2, 3] (by decide) rfl
    obtain ⟨rfl, rfl, rfl⟩ : (cmpF (fun k _ => pB (¬ evK k)) K V n).1 = n4 ∧ (cmpF (fun k _ => pB (¬ evK k)) K V n).2.1 = K4 ∧ (cmpF (fun k _ => pB (¬ evK k)) K V n).2.2 = V4 := by injection hr_3 with a1 a2; injection a2 with a2 a3; exact ⟨a1.symm, a2.symm, a3.symm⟩
    refine lv_iload_n hx hb dX1_sweep_57 rfl (lv_at hl 1 rfl) ?_
    refine lv_iload_n hx hb dX1_sweep_58 rfl (lv_at hl 2 rfl) ?_
    refine z_isub hx hb dX1_sweep_59 (by omega) ?_
    exact W.iret (v := nI (n - ((cmpF (fun k _ => pB (¬ evK k)) K V n).1))) hx hb hr (fun t ht hW => ⟨⟨nI (n - ((cmpF (fun k _ => pB (¬ evK k)) K V n).1)), ((cmpF (fun k _ => pB (¬ evK k)) K V n).1, (cmpF (fun k _ => pB (¬ evK k)) K V n).2.1, (cmpF (fun k _ => pB (¬ evK k)) K V n).2.2), rfl, ⟨rfl, rfl⟩, by rw [ht]; exact hP, va_K.moved hW.alike hK, hD⟩, hS.F ht⟩) hS.2.2 dX1_sweep_60
  · refine lv_aload_n hx hb dX1_sweep_17 rfl (lv_at hl 0 rfl) ?_
    refine va_get (D := D) (ci := 1) (v := .ref s0) (C := RX1) (T := TX1) (N := 9) hx hb hts lk1 hown hK hP 0 rfl rfl 0 (by decide) lk0 (fun _ h9 => h9) rfl dX1_sweep_18 ?_
    refine lv_iload_n hx hb dX1_sweep_21 rfl (lv_at hl 3 rfl) ?_
    refine vp_callSl (va_Run.run (va_runV (As := [.int (nI i)]) (rest := []) ⟨hx, hb, hml, hown, hts⟩ (c_X0_keyAt l D cI cJ s0 ka va 512 n ((cmpF (fun k _ => pB (¬ evK k)) K V i).2.1) ((cmpF (fun k _ => pB (¬ evK k)) K V i).2.2) (nI i) (by omega) (by omega)) (cwV 1 hts gX1_sweep_X0_keyAt rfl rfl rfl (by decide +kernel) ⟨Nat.le_of_ble_eq_true rfl, Nat.le_of_ble_eq_true rfl⟩) (z_preV hK hP [1, 2, 3] rfl 0 1 rfl rfl) rfl rfl hl.1 rfl (lv_room (Nat.le_of_ble_eq_true rfl)) dX1_sweep_22 ⟨Nat.zero_le _, Nat.zero_le _⟩)) (fun r_5 hr_5 => ?_)
    replace hr_5 := hr_5.symm
    subst hr_5
    refine z_topl (y := ((cmpF (fun k _ => pB (¬ evK k)) K V i).2.1) i) (vAt_N (by omega) (by omega)) ?_
    refine vp_callSi (va_Run.run (va_runS (As := [.long (((cmpF (fun k _ => pB (¬ evK k)) K V i).2.1) i)]) (rest := []) ⟨hx, hb, hml, hown, hts⟩ (c_X1_hasEvenSum l (((cmpF (fun k _ => pB (¬ evK k)) K V i).2.1) i)) (va_cwS 1 hts gX1_sweep_X1_hasEvenSum rfl rfl rfl (by decide +kernel) ⟨Nat.le_of_ble_eq_true rfl, Nat.le_of_ble_eq_true rfl⟩) z_preT rfl rfl hl.1 rfl (lv_room (Nat.le_of_ble_eq_true rfl)) dX1_sweep_25 ⟨Nat.zero_le _, Nat.zero_le _⟩)) (fun r_6 hr_6 => ?_)
    rcases hr_6 with ⟨hev, rfl⟩ | ⟨hev, rfl⟩
    · refine lv_if_ne (tgt := 43) hx hb dX1_sweep_28 (by decide) (fun _ => ?_) (fun q => absurd q (by decide))
      have hc := cmpF_no (P := (fun k _ => pB (¬ evK k))) (K := K) (V := V) (i := i) (pB_f (fun q => q hev))
      rw [← hc] at hP hD hl
      have hl : lv_has ls 4 [(0, .ref x), (1, .int (nI n)), (2, .int (nI ((cmpF (fun k _ => pB (¬ evK k)) K V (i + 1)).1))), (3, .int (nI i))] := hl
      have hP : va_P D vwCl [(x, .inr (1, [.ref s0, .ref s1, .ref s2, .ref s3, .ref s4, .ref s5, .ref s6, .long tape, .long turn])), (s0, .inr (0, [.ref ka, .ref va, .int (nI n)])), (ka, .inl (cJ, 512, .inr (.inl ((cmpF (fun k _ => pB (¬ evK k)) K V (i + 1)).2.1)))), (va, .inl (cJ, 512, .inr (.inl ((cmpF (fun k _ => pB (¬ evK k)) K V (i + 1)).2.2))))] H := hP
      have hD : va_D A [(x, .inr (1, [.ref s0, .ref s1, .ref s2, .ref s3, .ref s4, .ref s5, .ref s6, .long tape, .long turn])), (s0, .inr (0, [.ref ka, .ref va, .int (nI n)])), (ka, .inl (cJ, 512, .inr (.inl ((cmpF (fun k _ => pB (¬ evK k)) K V (i + 1)).2.1)))), (va, .inl (cJ, 512, .inr (.inl ((cmpF (fun k _ => pB (¬ evK k)) K V (i + 1)).2.2))))] := hD
      refine lv_iinc (v := nI (i + 1)) (lv' := [(3, .int (nI (i + 1))), (0, .ref x), (1, .int (nI n)), (2, .int (nI ((cmpF (fun k _ => pB (¬ evK k)) K V (i + 1)).1)))]) hx hb dX1_sweep_43 hl (k := 3) rfl (nI_add i 1) (by decide) rfl (fun ls hl => ?_)
      refine lv_goto (tgt := 12) hx hb dX1_sweep_46 (by decide) ?_
      exact ih (i + 1) _ _ _ ⟨hP, hD, hS, lv_sub hl [1, 2, 3, 0] rfl, by omega⟩ (by first | omega | (dsimp only; omega))
    · refine lv_if_ne (tgt := 43) hx hb dX1_sweep_28 (by decide) (fun q => absurd (by decide) q) (fun _ => ?_)
      refine lv_aload_n hx hb dX1_sweep_31 rfl (lv_at hl 0 rfl) ?_
      refine va_get (D := D) (ci := 1) (v := .ref s0) (C := RX1) (T := TX1) (N := 9) hx hb hts lk1 hown hK hP 0 rfl rfl 0 (by decide) lk0 (fun _ h9 => h9) rfl dX1_sweep_32 ?_
      refine lv_iload_n hx hb dX1_sweep_35 rfl (lv_at hl 3 rfl) ?_
      refine lv_iload_n hx hb dX1_sweep_36 rfl (lv_at hl 2 rfl) ?_
      have hFc := va_free (wc := [(s0, .inr (0, [.ref ka, .ref va, .int (nI n)])), (ka, .inl (cJ, 512, .inr (.inl ((cmpF (fun k _ => pB (¬ evK k)) K V i).2.1)))), (va, .inl (cJ, 512, .inr (.inl ((cmpF (fun k _ => pB (¬ evK k)) K V i).2.2))))]) hD hS hA [1, 2, 3] rfl
      refine va_callv (va_runV (As := [.int (nI i), .int (nI ((cmpF (fun k _ => pB (¬ evK k)) K V i).1))]) (rest := []) ⟨hx, hb, hml, hown, hts⟩ (c_X0_move l D cI cJ s0 ka va 512 n ((cmpF (fun k _ => pB (¬ evK k)) K V i).2.1) ((cmpF (fun k _ => pB (¬ evK k)) K V i).2.2) i ((cmpF (fun k _ => pB (¬ evK k)) K V i).1) (by omega) (by omega) (by omega) (by omega) H.size) (cwV 2 hts gX1_sweep_X0_move rfl rfl rfl (by decide +kernel) ⟨Nat.le_of_ble_eq_true rfl, Nat.le_of_ble_eq_true rfl⟩) (z_preVw hK hP hD [1, 2, 3] (by decide) rfl rfl 0 1 rfl rfl) rfl rfl hl.1 rfl (lv_room (Nat.le_of_ble_eq_true rfl)) dX1_sweep_37 ⟨Nat.zero_le _, Nat.zero_le _⟩) hS (fun q _ h => hFc q h) hFc (fun u_7 t H1 locs ht hvm hr_8 hB hzz1 hkk1 hS => ?_)
      obtain ⟨n9, K9, V9⟩ := u_7
      obtain ⟨hP1, hK1, hD1⟩ := hB
      rw [ht] at hP1
      try dsimp only at hr_8
      obtain ⟨hP, hD⟩ := va_join (wr := [(x, .inr (1, [.ref s0, .ref s1, .ref s2, .ref s3, .ref s4, .ref s5, .ref s6, .long tape, .long turn]))]) (w1 := [(s0, .inr (0, [.ref ka, .ref va, .int (nI n9)])), (ka, .inl (cJ, 512, .inr (.inl K9))), (va, .inl (cJ, 512, .inr (.inl V9)))]) hP hD [1, 2, 3] [0] rfl rfl (by decide) (by decide) hkk1 hFc hP1 hD1
      generalize H1 = H at hP hS ⊢
      have hP : va_P D vwCl [(x, .inr (1, [.ref s0, .ref s1, .ref s2, .ref s3, .ref s4, .ref s5, .ref s6, .long tape, .long turn])), (s0, .inr (0, [.ref ka, .ref va, .int (nI n9)])), (ka, .inl (cJ, 512, .inr (.inl K9))), (va, .inl (cJ, 512, .inr (.inl V9)))] H := hP.sub [0, 1, 2, 3] rfl
      have hD : va_D A [(x, .inr (1, [.ref s0, .ref s1, .ref s2, .ref s3, .ref s4, .ref s5, .ref s6, .long tape, .long turn])), (s0, .inr (0, [.ref ka, .ref va, .int (nI n9)])), (ka, .inl (cJ, 512, .inr (.inl K9))), (va, .inl (cJ, 512, .inr (.inl V9)))] := hD.sub [0, 1, 2, 3] (by decide) rfl
      obtain ⟨rfl, rfl, rfl⟩ : n = n9 ∧ vp_updL ((cmpF (fun k _ => pB (¬ evK k)) K V i).2.1) ((cmpF (fun k _ => pB (¬ evK k)) K V i).1) (((cmpF (fun k _ => pB (¬ evK k)) K V i).2.1) i) = K9 ∧ vp_updL ((cmpF (fun k _ => pB (¬ evK k)) K V i).2.2) ((cmpF (fun k _ => pB (¬ evK k)) K V i).1) (((cmpF (fun k _ => pB (¬ evK k)) K V i).2.2) i) = V9 := by injection hr_8 with a1 a2; injection a2 with a2 a3; exact ⟨a1.symm, a2.symm, a3.symm⟩
      refine lv_iinc (v := nI ((cmpF (fun k _ => pB (¬ evK k)) K V i).1 + 1)) (lv' := [(2, .int (nI ((cmpF (fun k _ => pB (¬ evK k)) K V i).1 + 1))), (0, .ref x), (1, .int (nI n)), (3, .int (nI i))]) hx hb dX1_sweep_40 hl (k := 2) rfl (nI_add ((cmpF (fun k _ => pB (¬ evK k)) K V i).1) 1) (by decide) rfl (fun ls hl => ?_)
      obtain ⟨hc1, hc2, hc3⟩ := cmpF_yes (P := (fun k _ => pB (¬ evK k))) (K := K) (V := V) (i := i) (pB_t hev)
      rw [← hc2, ← hc3] at hP hD
      rw [← hc1] at hl
      have hl : lv_has ls 4 [(2, .int (nI ((cmpF (fun k _ => pB (¬ evK k)) K V (i + 1)).1))), (0, .ref x), (1, .int (nI n)), (3, .int (nI i))] := hl
      have hP : va_P D vwCl [(x, .inr (1, [.ref s0, .ref s1, .ref s2, .ref s3, .ref s4, .ref s5, .ref s6, .long tape, .long turn])), (s0, .inr (0, [.ref ka, .ref va, .int (nI n)])), (ka, .inl (cJ, 512, .inr (.inl ((cmpF (fun k _ => pB (¬ evK k)) K V (i + 1)).2.1)))), (va, .inl (cJ, 512, .inr (.inl ((cmpF (fun k _ => pB (¬ evK k)) K V (i + 1)).2.2))))] H := hP
      have hD : va_D A [(x, .inr (1, [.ref s0, .ref s1, .ref s2, .ref s3, .ref s4, .ref s5, .ref s6, .long tape, .long turn])), (s0, .inr (0, [.ref ka, .ref va, .int (nI n)])), (ka, .inl (cJ, 512, .inr (.inl ((cmpF (fun k _ => pB (¬ evK k)) K V (i + 1)).2.1)))), (va, .inl (cJ, 512, .inr (.inl ((cmpF (fun k _ => pB (¬ evK k)) K V (i + 1)).2.2))))] := hD
      refine lv_iinc (v := nI (i + 1)) (lv' := [(3, .int (nI (i + 1))), (2, .int (nI ((cmpF (fun k _ => pB (¬ evK k)) K V (i + 1)).1))), (0, .ref x), (1, .int (nI n))]) hx hb dX1_sweep_43 hl (k := 3) rfl (nI_add i 1) (by decide) rfl (fun ls hl => ?_)
      refine lv_goto (tgt := 12) hx hb dX1_sweep_46 (by decide) ?_
      exact ih (i + 1) _ _ _ ⟨hP, hD, hS, lv_sub hl [2, 3, 1, 0] rfl, by omega⟩ (by first | omega | (dsimp only; omega))

set_option maxHeartbeats 4000000 in
set_option maxRecDepth 100000 in
theorem c_X1_come (l : Launch) (D : va_G) (cI cJ : ClassId) (x s0 s1 s2 s3 s4 s5 s6 : Nat) (tape turn : Int64) (ka va n : Nat) (K V : Nat → Int64) (hn : n ≤ 512) (hs : Srt n K) (hn1 : n < 512) (a b : Int32) (sz : Nat) : Met l yX1_come wsX1_come { frames := 3, cells := 0, slots := 0, locals := 78 } (va_Pc [.ref x, .int a, .int b] (wP D cI cJ [(x, .inr (1, [.ref s0, .ref s1, .ref s2, .ref s3, .ref s4, .ref s5, .ref s6, .long tape, .long turn])), (s1, .inr (0, [.ref ka, .ref va, .int (nI n)])), (ka, .inl (cJ, 512, .inr (.inl K))), (va, .inl (cJ, 512, .inr (.inl V)))] sz)) (va_Qi (fun r (u : SS × Int64) => ((∃ j, j < n ∧ V j = pk a b) ∧ u = ((n, K, V), turn) ∧ r = nI 0) ∨ ((∀ j, j < n → V j ≠ pk a b) ∧ (∃ r0, StR n K V turn (pk a b) r0 u.1) ∧ u.2 = turn + 1 ∧ r = nI 1)) (wB D cI cJ (va_A [(x, .inr (1, [.ref s0, .ref s1, .ref s2, .ref s3, .ref s4, .ref s5, .ref s6, .long tape, .long turn])), (s1, .inr (0, [.ref ka, .ref va, .int (nI n)])), (ka, .inl (cJ, 512, .inr (.inl K))), (va, .inl (cJ, 512, .inr (.inl V)))] sz) (fun ((n', K', V'), turn') => [(x, .inr (1, [.ref s0, .ref s1, .ref s2, .ref s3, .ref s4, .ref s5, .ref s6, .long tape, .long turn'])), (s1, .inr (0, [.ref ka, .ref va, .int (nI n')])), (ka, .inl (cJ, 512, .inr (.inl K'))), (va, .inl (cJ, 512, .inr (.inl V')))])) (va_A [(x, .inr (1, [.ref s0, .ref s1, .ref s2, .ref s3, .ref s4, .ref s5, .ref s6, .long tape, .long turn])), (s1, .inr (0, [.ref ka, .ref va, .int (nI n)])), (ka, .inl (cJ, 512, .inr (.inl K))), (va, .inl (cJ, 512, .inr (.inl V)))] sz)) 0 0 (va_A [(x, .inr (1, [.ref s0, .ref s1, .ref s2, .ref s3, .ref s4, .ref s5, .ref s6, .long tape, .long turn])), (s1, .inr (0, [.ref ka, .ref va, .int (nI n)])), (ka, .inl (cJ, 512, .inr (.inl K))), (va, .inl (cJ, 512, .inr (.inl V)))] sz) := by
  refine Met.ofW (cc := cX1_come) (maxL := 5) (ret := (some .boolean)) (by decide) rfl ?_
  intro p e s m args below meth c s₁ B hml hv
  obtain ⟨rfl, hsz, hP, hK, hD0⟩ := hv
  have hx := B.exec
  have hb := B.bytes
  have hr := B.returns
  have hts := atoms_spec (ws := wsX1_come) B.pre
  have hown : s.vm.findClass RX1 = some m.cls := findClass_of_methodNamed B.named
  have hlocks := B.notSynchronized
  have lk0 := hts (.fieldLink RX1 18 "KeyHall" "coming" "LKeyHall$Sorted;") (by decide +kernel)
  have lk1 : ∀ w ∈ wsX10, w ∈ wsX1_come := by decide +kernel
  have lk2 := hts (.fieldLink RX1 40 "KeyHall" "turn" "J") (by decide +kernel)
  subst hsz
  have hD := hD0.self (sz := s.heap.size)
  generalize hAe : va_A [(x, .inr (1, [.ref s0, .ref s1, .ref s2, .ref s3, .ref s4, .ref s5, .ref s6, .long tape, .long turn])), (s1, .inr (0, [.ref ka, .ref va, .int (nI n)])), (ka, .inl (cJ, 512, .inr (.inl K))), (va, .inl (cJ, 512, .inr (.inl V)))] s.heap.size = A at hD ⊢
  have hA : ∀ q : Nat, s.heap.size ≤ q → A q := fun q h => by rw [← hAe]; exact Or.inr h
  have hS : va_S A s.heap s.heap [] := va_S.rf
  have hP : va_P D vwCl [(x, .inr (1, [.ref s0, .ref s1, .ref s2, .ref s3, .ref s4, .ref s5, .ref s6, .long tape, .long turn])), (s1, .inr (0, [.ref ka, .ref va, .int (nI n)])), (ka, .inl (cJ, 512, .inr (.inl K))), (va, .inl (cJ, 512, .inr (.inl V)))] s.heap := hP
  have hl := lv_entry ([.ref x, .int a, .int b]) (n := 5) (Nat.le_of_ble_eq_true rfl)
  rw [lg_entry_eq]
  generalize (lg_sl ([.ref x, .int a, .int b]) ++ List.replicate (5 - (lg_sl ([.ref x, .int a, .int b])).length) Slot.unset).toArray = ls at hl ⊢
  have hl : lv_has ls 5 [(0, .ref x), (1, .int a), (2, .int b)] := hl
  refine lv_iload_n hx hb dX1_come_0 rfl (lv_at hl 1 rfl) ?_
  refine lv_iload_n hx hb dX1_come_1 rfl (lv_at hl 2 rfl) ?_
  refine vp_callSl (va_Run.run (va_runS (As := [.int a, .int b]) (rest := []) ⟨hx, hb, hml, hown, hts⟩ (c_X1_pairKey l a b) (va_cwS 2 hts gX1_come_X1_pairKey rfl rfl rfl (by decide +kernel) ⟨Nat.le_of_ble_eq_true rfl, Nat.le_of_ble_eq_true rfl⟩) z_preT rfl rfl hl.1 rfl (lv_room (Nat.le_of_ble_eq_true rfl)) dX1_come_2 ⟨Nat.zero_le _, Nat.zero_le _⟩)) (fun r_1 hr_1 => ?_)
  replace hr_1 := hr_1.symm
  subst hr_1
  refine lv_lstore_n (lv' := [(3, .long (pk a b)), (0, .ref x), (1, .int a), (2, .int b)]) hx hb dX1_come_5 rfl hl (by decide) rfl (fun ls hl => ?_)
  refine lv_aload_n hx hb dX1_come_6 rfl (lv_at hl 1 rfl) ?_
  refine va_get (D := D) (ci := 1) (v := .ref s1) (C := RX1) (T := TX1) (N := 9) hx hb hts lk1 hown hK hP 0 rfl rfl 1 (by decide) lk0 (fun _ h9 => h9) rfl dX1_come_7 ?_
  refine lv_lload_n hx hb dX1_come_10 rfl (lv_at hl 0 rfl) ?_
  refine vp_callSi (va_Run.run (va_runV (As := [.long (pk a b)]) (rest := []) ⟨hx, hb, hml, hown, hts⟩ (c_X0_findValue l D cI cJ s1 ka va 512 n K V (pk a b) (by omega) (by omega)) (cwV 1 hts gX1_come_X0_findValue rfl rfl rfl (by decide +kernel) ⟨Nat.le_of_ble_eq_true rfl, Nat.le_of_ble_eq_true rfl⟩) (z_preV hK hP [1, 2, 3] rfl 0 1 rfl rfl) rfl rfl hl.1 rfl (lv_room (Nat.le_of_ble_eq_true rfl)) dX1_come_11 ⟨Nat.zero_le _, Nat.zero_le _⟩)) (fun r_2 hr_2 => ?_)
  rcases hr_2 with ⟨j_3, hj, hje, rfl⟩ | ⟨hnf, rfl⟩
  · have hj31 : j_3 < 2 ^ 31 := by omega
    refine z_if_lt (tgt := 19) hx hb dX1_come_14 (by decide) (by omega) ?_
    refine lv_iconst (v := nI 0) hx hb dX1_come_17 (by decide) ?_
    exact W.zret (v := nI 0) hx hb hr (by decide) (fun t ht hW => ⟨⟨nI 0, ((n, K, V), turn), rfl, Or.inl ⟨⟨j_3, hj, hje⟩, rfl, rfl⟩, by rw [ht]; exact hP, va_K.moved hW.alike hK, hD⟩, hS.F ht⟩) hS.2.2 dX1_come_18
  · refine lv_if_lt (tgt := 19) hx hb dX1_come_14 (by decide) (fun _ => ?_) (fun q => absurd (by decide) q)
    refine lv_aload_n hx hb dX1_come_19 rfl (lv_at hl 1 rfl) ?_
    refine va_get (D := D) (ci := 1) (v := .ref s1) (C := RX1) (T := TX1) (N := 9) hx hb hts lk1 hown hK hP 0 rfl rfl 1 (by decide) lk0 (fun _ h9 => h9) rfl dX1_come_20 ?_
    refine lv_aload_n hx hb dX1_come_23 rfl (lv_at hl 1 rfl) ?_
    refine va_get (D := D) (ci := 1) (v := .long turn) (C := RX1) (T := TX1) (N := 9) hx hb hts lk1 hown hK hP 0 rfl rfl 8 (by decide) lk2 (fun _ h9 => h9) rfl dX1_come_24 ?_
    refine lv_lload_n hx hb dX1_come_27 rfl (lv_at hl 0 rfl) ?_
    have hFc := va_free (wc := [(s1, .inr (0, [.ref ka, .ref va, .int (nI n)])), (ka, .inl (cJ, 512, .inr (.inl K))), (va, .inl (cJ, 512, .inr (.inl V)))]) hD hS hA [1, 2, 3] rfl
    refine va_calll (va_runV (As := [.long turn, .long (pk a b)]) (rest := []) ⟨hx, hb, hml, hown, hts⟩ (c_X0_store l D cI cJ s1 ka va 512 n K V turn (pk a b) (by omega) (by omega) (by assumption) (by omega) s.heap.size) (cwV 2 hts gX1_come_X0_store rfl rfl rfl (by decide +kernel) ⟨Nat.le_of_ble_eq_true rfl, Nat.le_of_ble_eq_true rfl⟩) (z_preVw hK hP hD [1, 2, 3] (by decide) rfl rfl 0 1 rfl rfl) rfl rfl hl.1 rfl (lv_room (Nat.le_of_ble_eq_true rfl)) dX1_come_28 ⟨Nat.zero_le _, Nat.zero_le _⟩) hS (fun q _ h => hFc q h) hFc (fun r_5 u_4 t H1 locs ht hvm hr_5 hB hzz1 hkk1 hS => ?_)
    obtain ⟨n6, K6, V6⟩ := u_4
    obtain ⟨hP1, hK1, hD1⟩ := hB
    rw [ht] at hP1
    try dsimp only at hr_5
    obtain ⟨hP, hD⟩ := va_join (wr := [(x, .inr (1, [.ref s0, .ref s1, .ref s2, .ref s3, .ref s4, .ref s5, .ref s6, .long tape, .long turn]))]) (w1 := [(s1, .inr (0, [.ref ka, .ref va, .int (nI n6)])), (ka, .inl (cJ, 512, .inr (.inl K6))), (va, .inl (cJ, 512, .inr (.inl V6)))]) hP hD [1, 2, 3] [0] rfl rfl (by decide) (by decide) hkk1 hFc hP1 hD1
    generalize H1 = H at hP hS ⊢
    have hP : va_P D vwCl [(x, .inr (1, [.ref s0, .ref s1, .ref s2, .ref s3, .ref s4, .ref s5, .ref s6, .long tape, .long turn])), (s1, .inr (0, [.ref ka, .ref va, .int (nI n6)])), (ka, .inl (cJ, 512, .inr (.inl K6))), (va, .inl (cJ, 512, .inr (.inl V6)))] H := hP.sub [0, 1, 2, 3] rfl
    have hD : va_D A [(x, .inr (1, [.ref s0, .ref s1, .ref s2, .ref s3, .ref s4, .ref s5, .ref s6, .long tape, .long turn])), (s1, .inr (0, [.ref ka, .ref va, .int (nI n6)])), (ka, .inl (cJ, 512, .inr (.inl K6))), (va, .inl (cJ, 512, .inr (.inl V6)))] := hD.sub [0, 1, 2, 3] (by decide) rfl
    refine lv_pop2_2 hx hb dX1_come_31 rfl ?_
    refine lv_aload_n hx hb dX1_come_32 rfl (lv_at hl 1 rfl) ?_
    refine lv_dup hx hb dX1_come_33 rfl ?_
    refine va_get (D := D) (ci := 1) (v := .long turn) (C := RX1) (T := TX1) (N := 9) hx hb hts lk1 hown hK hP 0 rfl rfl 8 (by decide) lk2 (fun _ h9 => h9) rfl dX1_come_34 ?_
    refine lv_lconst (v := 1) hx hb dX1_come_37 (by decide) ?_
    refine lv_ladd hx hb dX1_come_38 ?_
    refine va_put (D := D) (ci := 1) (v := .long (turn + 1)) (ty := .long) (C := RX1) (T := TX1) (N := 9) hx hb hts lk1 tyX1 tyX1_ok nmX1 hown hK hP hD hS 0 rfl rfl 8 (by decide) lk2 (fun _ h9 => h9) rfl (by decide +kernel) rfl rfl (Nat.le_of_ble_eq_true rfl) dX1_come_39 (fun H locs hP hD hS => ?_)
    have hP : va_P D vwCl [(x, .inr (1, [.ref s0, .ref s1, .ref s2, .ref s3, .ref s4, .ref s5, .ref s6, .long tape, .long (turn + 1)])), (s1, .inr (0, [.ref ka, .ref va, .int (nI n6)])), (ka, .inl (cJ, 512, .inr (.inl K6))), (va, .inl (cJ, 512, .inr (.inl V6)))] H := hP
    have hD : va_D A [(x, .inr (1, [.ref s0, .ref s1, .ref s2, .ref s3, .ref s4, .ref s5, .ref s6, .long tape, .long (turn + 1)])), (s1, .inr (0, [.ref ka, .ref va, .int (nI n6)])), (ka, .inl (cJ, 512, .inr (.inl K6))), (va, .inl (cJ, 512, .inr (.inl V6)))] := hD
    refine lv_iconst (v := nI 1) hx hb dX1_come_42 (by decide) ?_
    exact W.zret (v := nI 1) hx hb hr (by decide) (fun t ht hW => ⟨⟨nI 1, ((n6, K6, V6), turn + 1), rfl, Or.inr ⟨hnf, ⟨_, hr_5⟩, rfl, rfl⟩, by rw [ht]; exact hP, va_K.moved hW.alike hK, hD⟩, hS.F ht⟩) hS.2.2 dX1_come_43

set_option maxHeartbeats 4000000 in
set_option maxRecDepth 100000 in
theorem c_X1_leave (l : Launch) (D : va_G) (cI cJ : ClassId) (x s0 s1 s2 s3 s4 s5 s6 : Nat) (tape turn : Int64) (ka va n : Nat) (K V : Nat → Int64) (hn : n ≤ 512) (a b : Int32) (sz : Nat) : Met l yX1_leave wsX1_leave { frames := 3, cells := 0, slots := 0, locals := 71 } (va_Pc [.ref x, .int a, .int b] (wP D cI cJ [(x, .inr (1, [.ref s0, .ref s1, .ref s2, .ref s3, .ref s4, .ref s5, .ref s6, .long tape, .long turn])), (s1, .inr (0, [.ref ka, .ref va, .int (nI n)])), (ka, .inl (cJ, 512, .inr (.inl K))), (va, .inl (cJ, 512, .inr (.inl V)))] sz)) (va_Qi (fun r (u : SS) => (∃ j, j < n ∧ V j = pk a b ∧ u = rmS n K V j ∧ r = nI 1) ∨ ((∀ j, j < n → V j ≠ pk a b) ∧ u = (n, K, V) ∧ r = nI 0)) (wB D cI cJ (va_A [(x, .inr (1, [.ref s0, .ref s1, .ref s2, .ref s3, .ref s4, .ref s5, .ref s6, .long tape, .long turn])), (s1, .inr (0, [.ref ka, .ref va, .int (nI n)])), (ka, .inl (cJ, 512, .inr (.inl K))), (va, .inl (cJ, 512, .inr (.inl V)))] sz) (fun (n', K', V') => [(x, .inr (1, [.ref s0, .ref s1, .ref s2, .ref s3, .ref s4, .ref s5, .ref s6, .long tape, .long turn])), (s1, .inr (0, [.ref ka, .ref va, .int (nI n')])), (ka, .inl (cJ, 512, .inr (.inl K'))), (va, .inl (cJ, 512, .inr (.inl V')))])) (va_A [(x, .inr (1, [.ref s0, .ref s1, .ref s2, .ref s3, .ref s4, .ref s5, .ref s6, .long tape, .long turn])), (s1, .inr (0, [.ref ka, .ref va, .int (nI n)])), (ka, .inl (cJ, 512, .inr (.inl K))), (va, .inl (cJ, 512, .inr (.inl V)))] sz)) 0 0 (va_A [(x, .inr (1, [.ref s0, .ref s1, .ref s2, .ref s3, .ref s4, .ref s5, .ref s6, .long tape, .long turn])), (s1, .inr (0, [.ref ka, .ref va, .int (nI n)])), (ka, .inl (cJ, 512, .inr (.inl K))), (va, .inl (cJ, 512, .inr (.inl V)))] sz) := by
  refine Met.ofW (cc := cX1_leave) (maxL := 4) (ret := (some .boolean)) (by decide) rfl ?_
  intro p e s m args below meth c s₁ B hml hv
  obtain ⟨rfl, hsz, hP, hK, hD0⟩ := hv
  have hx := B.exec
  have hb := B.bytes
  have hr := B.returns
  have hts := atoms_spec (ws := wsX1_leave) B.pre
  have hown : s.vm.findClass RX1 = some m.cls := findClass_of_methodNamed B.named
  have hlocks := B.notSynchronized
  have lk0 := hts (.fieldLink RX1 18 "KeyHall" "coming" "LKeyHall$Sorted;") (by decide +kernel)
  have lk1 : ∀ w ∈ wsX10, w ∈ wsX1_leave := by decide +kernel
  subst hsz
  have hD := hD0.self (sz := s.heap.size)
  generalize hAe : va_A [(x, .inr (1, [.ref s0, .ref s1, .ref s2, .ref s3, .ref s4, .ref s5, .ref s6, .long tape, .long turn])), (s1, .inr (0, [.ref ka, .ref va, .int (nI n)])), (ka, .inl (cJ, 512, .inr (.inl K))), (va, .inl (cJ, 512, .inr (.inl V)))] s.heap.size = A at hD ⊢
  have hA : ∀ q : Nat, s.heap.size ≤ q → A q := fun q h => by rw [← hAe]; exact Or.inr h
  have hS : va_S A s.heap s.heap [] := va_S.rf
  have hP : va_P D vwCl [(x, .inr (1, [.ref s0, .ref s1, .ref s2, .ref s3, .ref s4, .ref s5, .ref s6, .long tape, .long turn])), (s1, .inr (0, [.ref ka, .ref va, .int (nI n)])), (ka, .inl (cJ, 512, .inr (.inl K))), (va, .inl (cJ, 512, .inr (.inl V)))] s.heap := hP
  have hl := lv_entry ([.ref x, .int a, .int b]) (n := 4) (Nat.le_of_ble_eq_true rfl)
  rw [lg_entry_eq]
  generalize (lg_sl ([.ref x, .int a, .int b]) ++ List.replicate (4 - (lg_sl ([.ref x, .int a, .int b])).length) Slot.unset).toArray = ls at hl ⊢
  have hl : lv_has ls 4 [(0, .ref x), (1, .int a), (2, .int b)] := hl
  refine lv_aload_n hx hb dX1_leave_0 rfl (lv_at hl 0 rfl) ?_
  refine va_get (D := D) (ci := 1) (v := .ref s1) (C := RX1) (T := TX1) (N := 9) hx hb hts lk1 hown hK hP 0 rfl rfl 1 (by decide) lk0 (fun _ h9 => h9) rfl dX1_leave_1 ?_
  refine lv_iload_n hx hb dX1_leave_4 rfl (lv_at hl 1 rfl) ?_
  refine lv_iload_n hx hb dX1_leave_5 rfl (lv_at hl 2 rfl) ?_
  refine vp_callSl (va_Run.run (va_runS (As := [.int a, .int b]) (rest := [.ref s1]) ⟨hx, hb, hml, hown, hts⟩ (c_X1_pairKey l a b) (va_cwS 2 hts gX1_leave_X1_pairKey rfl rfl rfl (by decide +kernel) ⟨Nat.le_of_ble_eq_true rfl, Nat.le_of_ble_eq_true rfl⟩) z_preT rfl rfl hl.1 rfl (lv_room (Nat.le_of_ble_eq_true rfl)) dX1_leave_6 ⟨Nat.zero_le _, Nat.zero_le _⟩)) (fun r_1 hr_1 => ?_)
  replace hr_1 := hr_1.symm
  subst hr_1
  refine vp_callSi (va_Run.run (va_runV (As := [.long (pk a b)]) (rest := []) ⟨hx, hb, hml, hown, hts⟩ (c_X0_findValue l D cI cJ s1 ka va 512 n K V (pk a b) (by omega) (by omega)) (cwV 1 hts gX1_leave_X0_findValue rfl rfl rfl (by decide +kernel) ⟨Nat.le_of_ble_eq_true rfl, Nat.le_of_ble_eq_true rfl⟩) (z_preV hK hP [1, 2, 3] rfl 0 1 rfl rfl) rfl rfl hl.1 rfl (lv_room (Nat.le_of_ble_eq_true rfl)) dX1_leave_9 ⟨Nat.zero_le _, Nat.zero_le _⟩)) (fun r_2 hr_2 => ?_)
  rcases hr_2 with ⟨j_3, hj, hje, rfl⟩ | ⟨hnf, rfl⟩
  · have hj31 : j_3 < 2 ^ 31 := by omega
    refine lv_istore_n (lv' := [(3, .int (nI j_3)), (0, .ref x), (1, .int a), (2, .int b)]) hx hb dX1_leave_12 rfl hl (by decide) rfl (fun ls hl => ?_)
    refine lv_aload_n hx hb dX1_leave_13 rfl (lv_at hl 1 rfl) ?_
    refine va_get (D := D) (ci := 1) (v := .ref s1) (C := RX1) (T := TX1) (N := 9) hx hb hts lk1 hown hK hP 0 rfl rfl 1 (by decide) lk0 (fun _ h9 => h9) rfl dX1_leave_14 ?_
    refine lv_iload_n hx hb dX1_leave_17 rfl (lv_at hl 0 rfl) ?_
    have hFc := va_free (wc := [(s1, .inr (0, [.ref ka, .ref va, .int (nI n)])), (ka, .inl (cJ, 512, .inr (.inl K))), (va, .inl (cJ, 512, .inr (.inl V)))]) hD hS hA [1, 2, 3] rfl
    refine va_calll (va_runV (As := [.int (nI j_3)]) (rest := []) ⟨hx, hb, hml, hown, hts⟩ (c_X0_takeAt l D cI cJ s1 ka va 512 n K V (nI j_3) (by omega) (by omega) (by first | exact Or.inl rfl | exact Or.inr ⟨_, by omega, rfl⟩) s.heap.size) (cwV 1 hts gX1_leave_X0_takeAt rfl rfl rfl (by decide +kernel) ⟨Nat.le_of_ble_eq_true rfl, Nat.le_of_ble_eq_true rfl⟩) (z_preVw hK hP hD [1, 2, 3] (by decide) rfl rfl 0 1 rfl rfl) rfl rfl hl.1 rfl (lv_room (Nat.le_of_ble_eq_true rfl)) dX1_leave_18 ⟨Nat.zero_le _, Nat.zero_le _⟩) hS (fun q _ h => hFc q h) hFc (fun r_5 u_4 t H1 locs ht hvm hr_5 hB hzz1 hkk1 hS => ?_)
    obtain ⟨n6, K6, V6⟩ := u_4
    obtain ⟨hP1, hK1, hD1⟩ := hB
    rw [ht] at hP1
    try dsimp only at hr_5
    obtain ⟨hP, hD⟩ := va_join (wr := [(x, .inr (1, [.ref s0, .ref s1, .ref s2, .ref s3, .ref s4, .ref s5, .ref s6, .long tape, .long turn]))]) (w1 := [(s1, .inr (0, [.ref ka, .ref va, .int (nI n6)])), (ka, .inl (cJ, 512, .inr (.inl K6))), (va, .inl (cJ, 512, .inr (.inl V6)))]) hP hD [1, 2, 3] [0] rfl rfl (by decide) (by decide) hkk1 hFc hP1 hD1
    generalize H1 = H at hP hS ⊢
    have hP : va_P D vwCl [(x, .inr (1, [.ref s0, .ref s1, .ref s2, .ref s3, .ref s4, .ref s5, .ref s6, .long tape, .long turn])), (s1, .inr (0, [.ref ka, .ref va, .int (nI n6)])), (ka, .inl (cJ, 512, .inr (.inl K6))), (va, .inl (cJ, 512, .inr (.inl V6)))] H := hP.sub [0, 1, 2, 3] rfl
    have hD : va_D A [(x, .inr (1, [.ref s0, .ref s1, .ref s2, .ref s3, .ref s4, .ref s5, .ref s6, .long tape, .long turn])), (s1, .inr (0, [.ref ka, .ref va, .int (nI n6)])), (ka, .inl (cJ, 512, .inr (.inl K6))), (va, .inl (cJ, 512, .inr (.inl V6)))] := hD.sub [0, 1, 2, 3] (by decide) rfl
    refine lv_pop2_2 hx hb dX1_leave_21 rfl ?_
    refine lv_iload_n hx hb dX1_leave_22 rfl (lv_at hl 0 rfl) ?_
    refine z_if_lt (tgt := 30) hx hb dX1_leave_23 (by decide) (by omega) ?_
    refine lv_iconst (v := nI 1) hx hb dX1_leave_26 (by decide) ?_
    refine lv_goto (tgt := 31) hx hb dX1_leave_27 (by decide) ?_
    exact W.zret (v := nI 1) hx hb hr (by decide) (fun t ht hW => ⟨⟨nI 1, (n6, K6, V6), rfl, Or.inl ⟨j_3, hj, hje, (hr_5.inn hj (by omega)).2, rfl⟩, by rw [ht]; exact hP, va_K.moved hW.alike hK, hD⟩, hS.F ht⟩) hS.2.2 dX1_leave_31
  · refine lv_istore_n (lv' := [(3, .int (-1)), (0, .ref x), (1, .int a), (2, .int b)]) hx hb dX1_leave_12 rfl hl (by decide) rfl (fun ls hl => ?_)
    refine lv_aload_n hx hb dX1_leave_13 rfl (lv_at hl 1 rfl) ?_
    refine va_get (D := D) (ci := 1) (v := .ref s1) (C := RX1) (T := TX1) (N := 9) hx hb hts lk1 hown hK hP 0 rfl rfl 1 (by decide) lk0 (fun _ h9 => h9) rfl dX1_leave_14 ?_
    refine lv_iload_n hx hb dX1_leave_17 rfl (lv_at hl 0 rfl) ?_
    have hFc := va_free (wc := [(s1, .inr (0, [.ref ka, .ref va, .int (nI n)])), (ka, .inl (cJ, 512, .inr (.inl K))), (va, .inl (cJ, 512, .inr (.inl V)))]) hD hS hA [1, 2, 3] rfl
    refine va_calll (va_runV (As := [.int (-1)]) (rest := []) ⟨hx, hb, hml, hown, hts⟩ (c_X0_takeAt l D cI cJ s1 ka va 512 n K V (-1) (by omega) (by omega) (by first | exact Or.inl rfl | exact Or.inr ⟨_, by omega, rfl⟩) s.heap.size) (cwV 1 hts gX1_leave_X0_takeAt rfl rfl rfl (by decide +kernel) ⟨Nat.le_of_ble_eq_true rfl, Nat.le_of_ble_eq_true rfl⟩) (z_preVw hK hP hD [1, 2, 3] (by decide) rfl rfl 0 1 rfl rfl) rfl rfl hl.1 rfl (lv_room (Nat.le_of_ble_eq_true rfl)) dX1_leave_18 ⟨Nat.zero_le _, Nat.zero_le _⟩) hS (fun q _ h => hFc q h) hFc (fun r_8 u_7 t H1 locs ht hvm hr_8 hB hzz1 hkk1 hS => ?_)
    obtain ⟨n9, K9, V9⟩ := u_7
    obtain ⟨hP1, hK1, hD1⟩ := hB
    rw [ht] at hP1
    try dsimp only at hr_8
    obtain ⟨hP, hD⟩ := va_join (wr := [(x, .inr (1, [.ref s0, .ref s1, .ref s2, .ref s3, .ref s4, .ref s5, .ref s6, .long tape, .long turn]))]) (w1 := [(s1, .inr (0, [.ref ka, .ref va, .int (nI n9)])), (ka, .inl (cJ, 512, .inr (.inl K9))), (va, .inl (cJ, 512, .inr (.inl V9)))]) hP hD [1, 2, 3] [0] rfl rfl (by decide) (by decide) hkk1 hFc hP1 hD1
    generalize H1 = H at hP hS ⊢
    have hP : va_P D vwCl [(x, .inr (1, [.ref s0, .ref s1, .ref s2, .ref s3, .ref s4, .ref s5, .ref s6, .long tape, .long turn])), (s1, .inr (0, [.ref ka, .ref va, .int (nI n9)])), (ka, .inl (cJ, 512, .inr (.inl K9))), (va, .inl (cJ, 512, .inr (.inl V9)))] H := hP.sub [0, 1, 2, 3] rfl
    have hD : va_D A [(x, .inr (1, [.ref s0, .ref s1, .ref s2, .ref s3, .ref s4, .ref s5, .ref s6, .long tape, .long turn])), (s1, .inr (0, [.ref ka, .ref va, .int (nI n9)])), (ka, .inl (cJ, 512, .inr (.inl K9))), (va, .inl (cJ, 512, .inr (.inl V9)))] := hD.sub [0, 1, 2, 3] (by decide) rfl
    refine lv_pop2_2 hx hb dX1_leave_21 rfl ?_
    refine lv_iload_n hx hb dX1_leave_22 rfl (lv_at hl 0 rfl) ?_
    refine lv_if_lt (tgt := 30) hx hb dX1_leave_23 (by decide) (fun _ => ?_) (fun q => absurd (by decide) q)
    refine lv_iconst (v := nI 0) hx hb dX1_leave_30 (by decide) ?_
    exact W.zret (v := nI 0) hx hb hr (by decide) (fun t ht hW => ⟨⟨nI 0, (n9, K9, V9), rfl, Or.inr ⟨hnf, (hr_8.out (m1_out n) (by omega)).2, rfl⟩, by rw [ht]; exact hP, va_K.moved hW.alike hK, hD⟩, hS.F ht⟩) hS.2.2 dX1_leave_31

set_option maxHeartbeats 4000000 in
set_option maxRecDepth 100000 in
theorem c_X1_comer (l : Launch) (D : va_G) (cI cJ : ClassId) (x s0 s1 s2 s3 s4 s5 s6 : Nat) (tape turn : Int64) (ka va n : Nat) (K V : Nat → Int64) (hn : n ≤ 512) (k : Int32) (sc : Nat) (hsc : sc ≤ 1) : Met l yX1_comer wsX1_comer { frames := 2, cells := 0, slots := 0, locals := 42 } (va_Pc [.ref x, .int k, .int (nI sc)] (rP D cI cJ [(x, .inr (1, [.ref s0, .ref s1, .ref s2, .ref s3, .ref s4, .ref s5, .ref s6, .long tape, .long turn])), (s1, .inr (0, [.ref ka, .ref va, .int (nI n)])), (ka, .inl (cJ, 512, .inr (.inl K))), (va, .inl (cJ, 512, .inr (.inl V)))])) (vp_Sl (fun r => (∃ j, j < n ∧ k = nI j ∧ ((sc = 0 ∧ r = (fsK (V j)).toInt64) ∨ (sc ≠ 0 ∧ r = (snK (V j)).toInt64))) ∨ (¬ (¬ k < 0 ∧ ¬ nI n ≤ k) ∧ r = NO))) 0 0 (fun _ => False) := by
  refine Met.ofW (cc := cX1_comer) (maxL := 5) (ret := (some .long)) (by decide) rfl ?_
  intro p e s m args below meth c s₁ B hml hv
  obtain ⟨rfl, hP, hK⟩ := hv
  have hx := B.exec
  have hb := B.bytes
  have hr := B.returns
  have hts := atoms_spec (ws := wsX1_comer) B.pre
  have hown : s.vm.findClass RX1 = some m.cls := findClass_of_methodNamed B.named
  have hlocks := B.notSynchronized
  have lk0 := hts (.constantLong RX1 94 (4611686018427387904)) (by decide +kernel)
  have lk1 := hts (.fieldLink RX1 18 "KeyHall" "coming" "LKeyHall$Sorted;") (by decide +kernel)
  have lk2 : ∀ w ∈ wsX10, w ∈ wsX1_comer := by decide +kernel
  have hl := lv_entry ([.ref x, .int k, .int (nI sc)]) (n := 5) (Nat.le_of_ble_eq_true rfl)
  rw [lg_entry_eq]
  generalize (lg_sl ([.ref x, .int k, .int (nI sc)]) ++ List.replicate (5 - (lg_sl ([.ref x, .int k, .int (nI sc)])).length) Slot.unset).toArray = ls at hl ⊢
  have hl : lv_has ls 5 [(0, .ref x), (1, .int k), (2, .int (nI sc))] := hl
  refine lv_iload_n hx hb dX1_comer_0 rfl (lv_at hl 1 rfl) ?_
  refine lv_if_lt (tgt := 15) hx hb dX1_comer_1 (by decide) (fun c_1 => ?_) (fun c_1 => ?_)
  · refine lv_ldc2 hx hb hown lk0 dX1_comer_15 ?_
    exact W.lret (v := 4611686018427387904) hx hb hr (fun t ht hW => ⟨4611686018427387904, rfl, Or.inr ⟨fun q => q.1 c_1, rfl⟩, ht⟩) (fun _ h => nomatch h) dX1_comer_18
  · refine lv_iload_n hx hb dX1_comer_4 rfl (lv_at hl 1 rfl) ?_
    refine lv_aload_n hx hb dX1_comer_5 rfl (lv_at hl 0 rfl) ?_
    refine va_get (D := D) (ci := 1) (v := .ref s1) (C := RX1) (T := TX1) (N := 9) hx hb hts lk2 hown hK hP 0 rfl rfl 1 (by decide) lk1 (fun _ h9 => h9) rfl dX1_comer_6 ?_
    refine vp_callSi (va_Run.run (va_runV (As := []) (rest := [.int k]) ⟨hx, hb, hml, hown, hts⟩ (c_X0_held l D cI cJ s1 ka va 512 n K V  ) (cwV 0 hts gX1_comer_X0_held rfl rfl rfl (by decide +kernel) ⟨Nat.le_of_ble_eq_true rfl, Nat.le_of_ble_eq_true rfl⟩) (z_preV hK hP [1, 2, 3] rfl 0 1 rfl rfl) rfl rfl hl.1 rfl (lv_room (Nat.le_of_ble_eq_true rfl)) dX1_comer_9 ⟨Nat.zero_le _, Nat.zero_le _⟩)) (fun r_1 hr_1 => ?_)
    replace hr_1 := hr_1.symm
    subst hr_1
    refine lv_icmp_lt (tgt := 19) hx hb dX1_comer_12 (by decide) (fun c_12 => ?_) (fun c_12 => ?_)
    · obtain ⟨j, hj, rfl⟩ := ix_of c_1 (Int32.not_le.mpr c_12) (by omega)
      refine lv_aload_n hx hb dX1_comer_19 rfl (lv_at hl 0 rfl) ?_
      refine va_get (D := D) (ci := 1) (v := .ref s1) (C := RX1) (T := TX1) (N := 9) hx hb hts lk2 hown hK hP 0 rfl rfl 1 (by decide) lk1 (fun _ h9 => h9) rfl dX1_comer_20 ?_
      refine lv_iload_n hx hb dX1_comer_23 rfl (lv_at hl 1 rfl) ?_
      refine vp_callSl (va_Run.run (va_runV (As := [.int (nI j)]) (rest := []) ⟨hx, hb, hml, hown, hts⟩ (c_X0_valueAt l D cI cJ s1 ka va 512 n K V (nI j) (by omega) (by omega)) (cwV 1 hts gX1_comer_X0_valueAt rfl rfl rfl (by decide +kernel) ⟨Nat.le_of_ble_eq_true rfl, Nat.le_of_ble_eq_true rfl⟩) (z_preV hK hP [1, 2, 3] rfl 0 1 rfl rfl) rfl rfl hl.1 rfl (lv_room (Nat.le_of_ble_eq_true rfl)) dX1_comer_24 ⟨Nat.zero_le _, Nat.zero_le _⟩)) (fun r_2 hr_2 => ?_)
      replace hr_2 := hr_2.symm
      subst hr_2
      refine z_topl (y := V j) (vAt_N (by omega) (hj)) ?_
      refine lv_lstore_n (lv' := [(3, .long (V j)), (0, .ref x), (1, .int (nI j)), (2, .int (nI sc))]) hx hb dX1_comer_27 rfl hl (by decide) rfl (fun ls hl => ?_)
      refine lv_iload_n hx hb dX1_comer_28 rfl (lv_at hl 3 rfl) ?_
      refine z_if_eq (tgt := 40) hx hb dX1_comer_29 (by decide) (by omega) (fun c_29 => ?_) (fun c_29 => ?_)
      · refine lv_lload_n hx hb dX1_comer_40 rfl (lv_at hl 0 rfl) ?_
        refine vp_callSi (va_Run.run (va_runS (As := [.long (V j)]) (rest := []) ⟨hx, hb, hml, hown, hts⟩ (c_X1_firstOf l (V j)) (va_cwS 1 hts gX1_comer_X1_firstOf rfl rfl rfl (by decide +kernel) ⟨Nat.le_of_ble_eq_true rfl, Nat.le_of_ble_eq_true rfl⟩) z_preT rfl rfl hl.1 rfl (lv_room (Nat.le_of_ble_eq_true rfl)) dX1_comer_41 ⟨Nat.zero_le _, Nat.zero_le _⟩)) (fun r_3 hr_3 => ?_)
        replace hr_3 := hr_3.symm
        subst hr_3
        refine lv_i2l (v := (fsK (V j)).toInt64) hx hb dX1_comer_44 rfl ?_
        exact W.lret (v := (fsK (V j)).toInt64) hx hb hr (fun t ht hW => ⟨(fsK (V j)).toInt64, rfl, Or.inl ⟨j, hj, rfl, Or.inl ⟨c_29, rfl⟩⟩, ht⟩) (fun _ h => nomatch h) dX1_comer_45
      · refine lv_lload_n hx hb dX1_comer_32 rfl (lv_at hl 0 rfl) ?_
        refine vp_callSi (va_Run.run (va_runS (As := [.long (V j)]) (rest := []) ⟨hx, hb, hml, hown, hts⟩ (c_X1_secondOf l (V j)) (va_cwS 1 hts gX1_comer_X1_secondOf rfl rfl rfl (by decide +kernel) ⟨Nat.le_of_ble_eq_true rfl, Nat.le_of_ble_eq_true rfl⟩) z_preT rfl rfl hl.1 rfl (lv_room (Nat.le_of_ble_eq_true rfl)) dX1_comer_33 ⟨Nat.zero_le _, Nat.zero_le _⟩)) (fun r_4 hr_4 => ?_)
        replace hr_4 := hr_4.symm
        subst hr_4
        refine lv_i2l (v := (snK (V j)).toInt64) hx hb dX1_comer_36 rfl ?_
        refine lv_goto (tgt := 45) hx hb dX1_comer_37 (by decide) ?_
        exact W.lret (v := (snK (V j)).toInt64) hx hb hr (fun t ht hW => ⟨(snK (V j)).toInt64, rfl, Or.inl ⟨j, hj, rfl, Or.inr ⟨by omega, rfl⟩⟩, ht⟩) (fun _ h => nomatch h) dX1_comer_45
    · refine lv_ldc2 hx hb hown lk0 dX1_comer_15 ?_
      exact W.lret (v := 4611686018427387904) hx hb hr (fun t ht hW => ⟨4611686018427387904, rfl, Or.inr ⟨fun q => q.2 (Int32.not_lt.mp c_12), rfl⟩, ht⟩) (fun _ h => nomatch h) dX1_comer_18

set_option maxHeartbeats 4000000 in
set_option maxRecDepth 100000 in
theorem c_X1_retain (l : Launch) (D : va_G) (cI cJ : ClassId) (x s0 s1 s2 s3 s4 s5 s6 : Nat) (tape turn : Int64) (kac vac nc : Nat) (Kc Vc : Nat → Int64) (hnc : nc ≤ 512) (hsc : Srt nc Kc) (ka va n : Nat) (K V : Nat → Int64) (hn : n ≤ 512) (sz : Nat) : Met l yX1_retain wsX1_retain { frames := 4, cells := 0, slots := 0, locals := 89 } (va_Pc [.ref x] (wP D cI cJ [(x, .inr (1, [.ref s0, .ref s1, .ref s2, .ref s3, .ref s4, .ref s5, .ref s6, .long tape, .long turn])), (s0, .inr (0, [.ref kac, .ref vac, .int (nI nc)])), (kac, .inl (cJ, 512, .inr (.inl Kc))), (vac, .inl (cJ, 512, .inr (.inl Vc))), (s1, .inr (0, [.ref ka, .ref va, .int (nI n)])), (ka, .inl (cJ, 512, .inr (.inl K))), (va, .inl (cJ, 512, .inr (.inl V)))] sz)) (va_Qi (fun r (u : SS) => u = ((cmpF (fun _ v => pB (∃ j, j < nc ∧ Kc j = v)) K V n).1, (cmpF (fun _ v => pB (∃ j, j < nc ∧ Kc j = v)) K V n).2.1, (cmpF (fun _ v => pB (∃ j, j < nc ∧ Kc j = v)) K V n).2.2) ∧ r = nI (cmpF (fun _ v => pB (∃ j, j < nc ∧ Kc j = v)) K V n).1) (wB D cI cJ (va_A [(x, .inr (1, [.ref s0, .ref s1, .ref s2, .ref s3, .ref s4, .ref s5, .ref s6, .long tape, .long turn])), (s0, .inr (0, [.ref kac, .ref vac, .int (nI nc)])), (kac, .inl (cJ, 512, .inr (.inl Kc))), (vac, .inl (cJ, 512, .inr (.inl Vc))), (s1, .inr (0, [.ref ka, .ref va, .int (nI n)])), (ka, .inl (cJ, 512, .inr (.inl K))), (va, .inl (cJ, 512, .inr (.inl V)))] sz) (fun (n', K', V') => [(x, .inr (1, [.ref s0, .ref s1, .ref s2, .ref s3, .ref s4, .ref s5, .ref s6, .long tape, .long turn])), (s0, .inr (0, [.ref kac, .ref vac, .int (nI nc)])), (kac, .inl (cJ, 512, .inr (.inl Kc))), (vac, .inl (cJ, 512, .inr (.inl Vc))), (s1, .inr (0, [.ref ka, .ref va, .int (nI n')])), (ka, .inl (cJ, 512, .inr (.inl K'))), (va, .inl (cJ, 512, .inr (.inl V')))])) (va_A [(x, .inr (1, [.ref s0, .ref s1, .ref s2, .ref s3, .ref s4, .ref s5, .ref s6, .long tape, .long turn])), (s0, .inr (0, [.ref kac, .ref vac, .int (nI nc)])), (kac, .inl (cJ, 512, .inr (.inl Kc))), (vac, .inl (cJ, 512, .inr (.inl Vc))), (s1, .inr (0, [.ref ka, .ref va, .int (nI n)])), (ka, .inl (cJ, 512, .inr (.inl K))), (va, .inl (cJ, 512, .inr (.inl V)))] sz)) 0 0 (va_A [(x, .inr (1, [.ref s0, .ref s1, .ref s2, .ref s3, .ref s4, .ref s5, .ref s6, .long tape, .long turn])), (s0, .inr (0, [.ref kac, .ref vac, .int (nI nc)])), (kac, .inl (cJ, 512, .inr (.inl Kc))), (vac, .inl (cJ, 512, .inr (.inl Vc))), (s1, .inr (0, [.ref ka, .ref va, .int (nI n)])), (ka, .inl (cJ, 512, .inr (.inl K))), (va, .inl (cJ, 512, .inr (.inl V)))] sz) := by
  refine Met.ofW (cc := cX1_retain) (maxL := 3) (ret := (some .int)) (by decide) rfl ?_
  intro p e s m args below meth c s₁ B hml hv
  obtain ⟨rfl, hsz, hP, hK, hD0⟩ := hv
  have hx := B.exec
  have hb := B.bytes
  have hr := B.returns
  have hts := atoms_spec (ws := wsX1_retain) B.pre
  have hown : s.vm.findClass RX1 = some m.cls := findClass_of_methodNamed B.named
  have hlocks := B.notSynchronized
  have lk0 := hts (.fieldLink RX1 18 "KeyHall" "coming" "LKeyHall$Sorted;") (by decide +kernel)
  have lk1 : ∀ w ∈ wsX10, w ∈ wsX1_retain := by decide +kernel
  have lk2 := hts (.fieldLink RX1 14 "KeyHall" "counts" "LKeyHall$Sorted;") (by decide +kernel)
  subst hsz
  have hD := hD0.self (sz := s.heap.size)
  generalize hAe : va_A [(x, .inr (1, [.ref s0, .ref s1, .ref s2, .ref s3, .ref s4, .ref s5, .ref s6, .long tape, .long turn])), (s0, .inr (0, [.ref kac, .ref vac, .int (nI nc)])), (kac, .inl (cJ, 512, .inr (.inl Kc))), (vac, .inl (cJ, 512, .inr (.inl Vc))), (s1, .inr (0, [.ref ka, .ref va, .int (nI n)])), (ka, .inl (cJ, 512, .inr (.inl K))), (va, .inl (cJ, 512, .inr (.inl V)))] s.heap.size = A at hD ⊢
  have hA : ∀ q : Nat, s.heap.size ≤ q → A q := fun q h => by rw [← hAe]; exact Or.inr h
  have hS : va_S A s.heap s.heap [] := va_S.rf
  have hP : va_P D vwCl [(x, .inr (1, [.ref s0, .ref s1, .ref s2, .ref s3, .ref s4, .ref s5, .ref s6, .long tape, .long turn])), (s0, .inr (0, [.ref kac, .ref vac, .int (nI nc)])), (kac, .inl (cJ, 512, .inr (.inl Kc))), (vac, .inl (cJ, 512, .inr (.inl Vc))), (s1, .inr (0, [.ref ka, .ref va, .int (nI n)])), (ka, .inl (cJ, 512, .inr (.inl K))), (va, .inl (cJ, 512, .inr (.inl V)))] s.heap := hP
  have hl := lv_entry ([.ref x]) (n := 3) (Nat.le_of_ble_eq_true rfl)
  rw [lg_entry_eq]
  generalize (lg_sl ([.ref x]) ++ List.replicate (3 - (lg_sl ([.ref x])).length) Slot.unset).toArray = ls at hl ⊢
  have hl : lv_has ls 3 [(0, .ref x)] := hl
  refine lv_iconst (v := nI 0) hx hb dX1_retain_0 (by decide) ?_
  refine lv_istore_n (lv' := [(1, .int (nI 0)), (0, .ref x)]) hx hb dX1_retain_1 rfl hl (by decide) rfl (fun ls hl => ?_)
  refine lv_iconst (v := nI 0) hx hb dX1_retain_2 (by decide) ?_
  refine lv_istore_n (lv' := [(2, .int (nI 0)), (1, .int (nI 0)), (0, .ref x)]) hx hb dX1_retain_3 rfl hl (by decide) rfl (fun ls hl => ?_)
  refine z_loopw (σ := Nat) (fun i => n - i) (fun i H locs ls => va_P D vwCl [(x, .inr (1, [.ref s0, .ref s1, .ref s2, .ref s3, .ref s4, .ref s5, .ref s6, .long tape, .long turn])), (s0, .inr (0, [.ref kac, .ref vac, .int (nI nc)])), (kac, .inl (cJ, 512, .inr (.inl Kc))), (vac, .inl (cJ, 512, .inr (.inl Vc))), (s1, .inr (0, [.ref ka, .ref va, .int (nI n)])), (ka, .inl (cJ, 512, .inr (.inl ((cmpF (fun _ v => pB (∃ j, j < nc ∧ Kc j = v)) K V i).2.1)))), (va, .inl (cJ, 512, .inr (.inl ((cmpF (fun _ v => pB (∃ j, j < nc ∧ Kc j = v)) K V i).2.2))))] H ∧ va_D A [(x, .inr (1, [.ref s0, .ref s1, .ref s2, .ref s3, .ref s4, .ref s5, .ref s6, .long tape, .long turn])), (s0, .inr (0, [.ref kac, .ref vac, .int (nI nc)])), (kac, .inl (cJ, 512, .inr (.inl Kc))), (vac, .inl (cJ, 512, .inr (.inl Vc))), (s1, .inr (0, [.ref ka, .ref va, .int (nI n)])), (ka, .inl (cJ, 512, .inr (.inl ((cmpF (fun _ v => pB (∃ j, j < nc ∧ Kc j = v)) K V i).2.1)))), (va, .inl (cJ, 512, .inr (.inl ((cmpF (fun _ v => pB (∃ j, j < nc ∧ Kc j = v)) K V i).2.2))))] ∧ va_S A s.heap H locs ∧ lv_has ls 3 [(0, .ref x), (1, .int (nI ((cmpF (fun _ v => pB (∃ j, j < nc ∧ Kc j = v)) K V i).1))), (2, .int (nI i))] ∧ (i ≤ n)) ?_ (0) _ _ _ ⟨hP, hD, hS, lv_sub hl [2, 1, 0] rfl, Nat.zero_le _⟩
  rintro i H locs ls ⟨hP, hD, hS, hl, hi⟩ ih
  have hP : va_P D vwCl [(x, .inr (1, [.ref s0, .ref s1, .ref s2, .ref s3, .ref s4, .ref s5, .ref s6, .long tape, .long turn])), (s0, .inr (0, [.ref kac, .ref vac, .int (nI nc)])), (kac, .inl (cJ, 512, .inr (.inl Kc))), (vac, .inl (cJ, 512, .inr (.inl Vc))), (s1, .inr (0, [.ref ka, .ref va, .int (nI n)])), (ka, .inl (cJ, 512, .inr (.inl ((cmpF (fun _ v => pB (∃ j, j < nc ∧ Kc j = v)) K V i).2.1)))), (va, .inl (cJ, 512, .inr (.inl ((cmpF (fun _ v => pB (∃ j, j < nc ∧ Kc j = v)) K V i).2.2))))] H := hP
  have hl : lv_has ls 3 [(0, .ref x), (1, .int (nI ((cmpF (fun _ v => pB (∃ j, j < nc ∧ Kc j = v)) K V i).1))), (2, .int (nI i))] := hl
  have hcl := cmpF_le (fun _ v => pB (∃ j, j < nc ∧ Kc j = v)) K V i
  refine lv_iload_n hx hb dX1_retain_4 rfl (lv_at hl 2 rfl) ?_
  refine lv_aload_n hx hb dX1_retain_5 rfl (lv_at hl 0 rfl) ?_
  refine va_get (D := D) (ci := 1) (v := .ref s1) (C := RX1) (T := TX1) (N := 9) hx hb hts lk1 hown hK hP 0 rfl rfl 1 (by decide) lk0 (fun _ h9 => h9) rfl dX1_retain_6 ?_
  refine vp_callSi (va_Run.run (va_runV (As := []) (rest := [.int (nI i)]) ⟨hx, hb, hml, hown, hts⟩ (c_X0_held l D cI cJ s1 ka va 512 n ((cmpF (fun _ v => pB (∃ j, j < nc ∧ Kc j = v)) K V i).2.1) ((cmpF (fun _ v => pB (∃ j, j < nc ∧ Kc j = v)) K V i).2.2)  ) (cwV 0 hts gX1_retain_X0_held rfl rfl rfl (by decide +kernel) ⟨Nat.le_of_ble_eq_true rfl, Nat.le_of_ble_eq_true rfl⟩) (z_preV hK hP [4, 5, 6] rfl 0 4 rfl rfl) rfl rfl hl.1 rfl (lv_room (Nat.le_of_ble_eq_true rfl)) dX1_retain_9 ⟨Nat.zero_le _, Nat.zero_le _⟩)) (fun r_1 hr_1 => ?_)
  replace hr_1 := hr_1.symm
  subst hr_1
  refine z_icmp_ge (tgt := 51) hx hb dX1_retain_12 (by decide) (by omega) (by omega) (fun c_12 => ?_) (fun c_12 => ?_)
  · have hin : i = n := Nat.le_antisymm hi c_12
    rw [hin] at hP hD hl hcl
    refine lv_aload_n hx hb dX1_retain_51 rfl (lv_at hl 0 rfl) ?_
    refine va_get (D := D) (ci := 1) (v := .ref s1) (C := RX1) (T := TX1) (N := 9) hx hb hts lk1 hown hK hP 0 rfl rfl 1 (by decide) lk0 (fun _ h9 => h9) rfl dX1_retain_52 ?_
    refine lv_iload_n hx hb dX1_retain_55 rfl (lv_at hl 1 rfl) ?_
    have hFc := va_free (wc := [(s1, .inr (0, [.ref ka, .ref va, .int (nI n)])), (ka, .inl (cJ, 512, .inr (.inl ((cmpF (fun _ v => pB (∃ j, j < nc ∧ Kc j = v)) K V n).2.1)))), (va, .inl (cJ, 512, .inr (.inl ((cmpF (fun _ v => pB (∃ j, j < nc ∧ Kc j = v)) K V n).2.2))))]) hD hS hA [4, 5, 6] rfl
    refine va_callv (va_runV (As := [.int (nI ((cmpF (fun _ v => pB (∃ j, j < nc ∧ Kc j = v)) K V n).1))]) (rest := []) ⟨hx, hb, hml, hown, hts⟩ (c_X0_shorten l D cI cJ s1 ka va 512 n ((cmpF (fun _ v => pB (∃ j, j < nc ∧ Kc j = v)) K V n).2.1) ((cmpF (fun _ v => pB (∃ j, j < nc ∧ Kc j = v)) K V n).2.2) ((cmpF (fun _ v => pB (∃ j, j < nc ∧ Kc j = v)) K V n).1) (by omega) (by omega) (by omega) H.size) (cwV 1 hts gX1_retain_X0_shorten rfl rfl rfl (by decide +kernel) ⟨Nat.le_of_ble_eq_true rfl, Nat.le_of_ble_eq_true rfl⟩) (z_preVw hK hP hD [4, 5, 6] (by decide) rfl rfl 0 4 rfl rfl) rfl rfl hl.1 rfl (lv_room (Nat.le_of_ble_eq_true rfl)) dX1_retain_56 ⟨Nat.zero_le _, Nat.zero_le _⟩) hS (fun q _ h => hFc q h) hFc (fun u_2 t H1 locs ht hvm hr_3 hB hzz1 hkk1 hS => ?_)
    obtain ⟨n4, K4, V4⟩ := u_2
    obtain ⟨hP1, hK1, hD1⟩ := hB
    rw [ht] at hP1
    try dsimp only at hr_3
    obtain ⟨hP, hD⟩ := va_join (wr := [(x, .inr (1, [.ref s0, .ref s1, .ref s2, .ref s3, .ref s4, .ref s5, .ref s6, .long tape, .long turn])), (s0, .inr (0, [.ref kac, .ref vac, .int (nI nc)])), (kac, .inl (cJ, 512, .inr (.inl Kc))), (vac, .inl (cJ, 512, .inr (.inl Vc)))]) (w1 := [(s1, .inr (0, [.ref ka, .ref va, .int (nI n4)])), (ka, .inl (cJ, 512, .inr (.inl K4))), (va, .inl (cJ, 512, .inr (.inl V4)))]) hP hD [4, 5, 6] [0, 1, 2, 3] rfl rfl (by decide) (by decide) hkk1 hFc hP1 hD1
    generalize H1 = H at hP hS ⊢
    have hP : va_P D vwCl [(x, .inr (1, [.ref s0, .ref s1, .ref s2, .ref s3, .ref s4, .ref s5, .ref s6, .long tape, .long turn])), (s0, .inr (0, [.ref kac, .ref vac, .int (nI nc)])), (kac, .inl (cJ, 512, .inr (.inl Kc))), (vac, .inl (cJ, 512, .inr (.inl Vc))), (s1, .inr (0, [.ref ka, .ref va, .int (nI n4)])), (ka, .inl (cJ, 512, .inr (.inl K4))), (va, .inl (cJ, 512, .inr (.inl V4)))] H := hP.sub [0, 1, 2, 3, 4, 5, 6] rfl
    have hD : va_D A [(x, .inr (1, [.ref s0, .ref s1, .ref s2, .ref s3, .ref s4, .ref s5, .ref s6, .long tape, .long turn])), (s0, .inr (0, [.ref kac, .ref vac, .int (nI nc)])), (kac, .inl (cJ, 512, .inr (.inl Kc))), (vac, .inl (cJ, 512, .inr (.inl Vc))), (s1, .inr (0, [.ref ka, .ref va, .int (nI n4)])), (ka, .inl (cJ, 512, .inr (.inl K4))), (va, .inl (cJ, 512, .inr (.inl V4)))] := hD.sub [0, 1, 2, 3, 4, 5, 6] (by decide) rfl
    obtain ⟨rfl, rfl, rfl⟩ : (cmpF (fun _ v => pB (∃ j, j < nc ∧ Kc j = v)) K V n).1 = n4 ∧ (cmpF (fun _ v => pB (∃ j, j < nc ∧ Kc j = v)) K V n).2.1 = K4 ∧ (cmpF (fun _ v => pB (∃ j, j < nc ∧ Kc j = v)) K V n).2.2 = V4 := by injection hr_3 with a1 a2; injection a2 with a2 a3; exact ⟨a1.symm, a2.symm, a3.symm⟩
    refine lv_iload_n hx hb dX1_retain_59 rfl (lv_at hl 1 rfl) ?_
    exact W.iret (v := nI ((cmpF (fun _ v => pB (∃ j, j < nc ∧ Kc j = v)) K V n).1)) hx hb hr (fun t ht hW => ⟨⟨nI ((cmpF (fun _ v => pB (∃ j, j < nc ∧ Kc j = v)) K V n).1), ((cmpF (fun _ v => pB (∃ j, j < nc ∧ Kc j = v)) K V n).1, (cmpF (fun _ v => pB (∃ j, j < nc ∧ Kc j = v)) K V n).2.1, (cmpF (fun _ v => pB (∃ j, j < nc ∧ Kc j = v)) K V n).2.2), rfl, ⟨rfl, rfl⟩, by rw [ht]; exact hP, va_K.moved hW.alike hK, hD⟩, hS.F ht⟩) hS.2.2 dX1_retain_60
  · refine lv_aload_n hx hb dX1_retain_15 rfl (lv_at hl 0 rfl) ?_
    refine va_get (D := D) (ci := 1) (v := .ref s0) (C := RX1) (T := TX1) (N := 9) hx hb hts lk1 hown hK hP 0 rfl rfl 0 (by decide) lk2 (fun _ h9 => h9) rfl dX1_retain_16 ?_
    refine lv_aload_n hx hb dX1_retain_19 rfl (lv_at hl 0 rfl) ?_
    refine va_get (D := D) (ci := 1) (v := .ref s1) (C := RX1) (T := TX1) (N := 9) hx hb hts lk1 hown hK hP 0 rfl rfl 1 (by decide) lk0 (fun _ h9 => h9) rfl dX1_retain_20 ?_
    refine lv_iload_n hx hb dX1_retain_23 rfl (lv_at hl 2 rfl) ?_
    refine vp_callSl (va_Run.run (va_runV (As := [.int (nI i)]) (rest := [.ref s0]) ⟨hx, hb, hml, hown, hts⟩ (c_X0_valueAt l D cI cJ s1 ka va 512 n ((cmpF (fun _ v => pB (∃ j, j < nc ∧ Kc j = v)) K V i).2.1) ((cmpF (fun _ v => pB (∃ j, j < nc ∧ Kc j = v)) K V i).2.2) (nI i) (by omega) (by omega)) (cwV 1 hts gX1_retain_X0_valueAt rfl rfl rfl (by decide +kernel) ⟨Nat.le_of_ble_eq_true rfl, Nat.le_of_ble_eq_true rfl⟩) (z_preV hK hP [4, 5, 6] rfl 0 4 rfl rfl) rfl rfl hl.1 rfl (lv_room (Nat.le_of_ble_eq_true rfl)) dX1_retain_24 ⟨Nat.zero_le _, Nat.zero_le _⟩)) (fun r_5 hr_5 => ?_)
    replace hr_5 := hr_5.symm
    subst hr_5
    refine z_topl (y := ((cmpF (fun _ v => pB (∃ j, j < nc ∧ Kc j = v)) K V i).2.2) i) (vAt_N (by omega) (by omega)) ?_
    refine vp_callSi (va_Run.run (va_runV (As := [.long (((cmpF (fun _ v => pB (∃ j, j < nc ∧ Kc j = v)) K V i).2.2) i)]) (rest := []) ⟨hx, hb, hml, hown, hts⟩ (c_X0_holds l D cI cJ s0 kac vac 512 nc Kc Vc (((cmpF (fun _ v => pB (∃ j, j < nc ∧ Kc j = v)) K V i).2.2) i) (by omega) (by omega) (by assumption)) (cwV 1 hts gX1_retain_X0_holds rfl rfl rfl (by decide +kernel) ⟨Nat.le_of_ble_eq_true rfl, Nat.le_of_ble_eq_true rfl⟩) (z_preV hK hP [1, 2, 3] rfl 0 1 rfl rfl) rfl rfl hl.1 rfl (lv_room (Nat.le_of_ble_eq_true rfl)) dX1_retain_27 ⟨Nat.zero_le _, Nat.zero_le _⟩)) (fun r_6 hr_6 => ?_)
    rcases hr_6 with ⟨hho, rfl⟩ | ⟨hho, rfl⟩
    · refine lv_if_eq (tgt := 45) hx hb dX1_retain_30 (by decide) (fun q => absurd q (by decide)) (fun _ => ?_)
      refine lv_aload_n hx hb dX1_retain_33 rfl (lv_at hl 0 rfl) ?_
      refine va_get (D := D) (ci := 1) (v := .ref s1) (C := RX1) (T := TX1) (N := 9) hx hb hts lk1 hown hK hP 0 rfl rfl 1 (by decide) lk0 (fun _ h9 => h9) rfl dX1_retain_34 ?_
      refine lv_iload_n hx hb dX1_retain_37 rfl (lv_at hl 2 rfl) ?_
      refine lv_iload_n hx hb dX1_retain_38 rfl (lv_at hl 1 rfl) ?_
      have hFc := va_free (wc := [(s1, .inr (0, [.ref ka, .ref va, .int (nI n)])), (ka, .inl (cJ, 512, .inr (.inl ((cmpF (fun _ v => pB (∃ j, j < nc ∧ Kc j = v)) K V i).2.1)))), (va, .inl (cJ, 512, .inr (.inl ((cmpF (fun _ v => pB (∃ j, j < nc ∧ Kc j = v)) K V i).2.2))))]) hD hS hA [4, 5, 6] rfl
      refine va_callv (va_runV (As := [.int (nI i), .int (nI ((cmpF (fun _ v => pB (∃ j, j < nc ∧ Kc j = v)) K V i).1))]) (rest := []) ⟨hx, hb, hml, hown, hts⟩ (c_X0_move l D cI cJ s1 ka va 512 n ((cmpF (fun _ v => pB (∃ j, j < nc ∧ Kc j = v)) K V i).2.1) ((cmpF (fun _ v => pB (∃ j, j < nc ∧ Kc j = v)) K V i).2.2) i ((cmpF (fun _ v => pB (∃ j, j < nc ∧ Kc j = v)) K V i).1) (by omega) (by omega) (by omega) (by omega) H.size) (cwV 2 hts gX1_retain_X0_move rfl rfl rfl (by decide +kernel) ⟨Nat.le_of_ble_eq_true rfl, Nat.le_of_ble_eq_true rfl⟩) (z_preVw hK hP hD [4, 5, 6] (by decide) rfl rfl 0 4 rfl rfl) rfl rfl hl.1 rfl (lv_room (Nat.le_of_ble_eq_true rfl)) dX1_retain_39 ⟨Nat.zero_le _, Nat.zero_le _⟩) hS (fun q _ h => hFc q h) hFc (fun u_7 t H1 locs ht hvm hr_8 hB hzz1 hkk1 hS => ?_)
      obtain ⟨n9, K9, V9⟩ := u_7
      obtain ⟨hP1, hK1, hD1⟩ := hB
      rw [ht] at hP1
      try dsimp only at hr_8
      obtain ⟨hP, hD⟩ := va_join (wr := [(x, .inr (1, [.ref s0, .ref s1, .ref s2, .ref s3, .ref s4, .ref s5, .ref s6, .long tape, .long turn])), (s0, .inr (0, [.ref kac, .ref vac, .int (nI nc)])), (kac, .inl (cJ, 512, .inr (.inl Kc))), (vac, .inl (cJ, 512, .inr (.inl Vc)))]) (w1 := [(s1, .inr (0, [.ref ka, .ref va, .int (nI n9)])), (ka, .inl (cJ, 512, .inr (.inl K9))), (va, .inl (cJ, 512, .inr (.inl V9)))]) hP hD [4, 5, 6] [0, 1, 2, 3] rfl rfl (by decide) (by decide) hkk1 hFc hP1 hD1
      generalize H1 = H at hP hS ⊢
      have hP : va_P D vwCl [(x, .inr (1, [.ref s0, .ref s1, .ref s2, .ref s3, .ref s4, .ref s5, .ref s6, .long tape, .long turn])), (s0, .inr (0, [.ref kac, .ref vac, .int (nI nc)])), (kac, .inl (cJ, 512, .inr (.inl Kc))), (vac, .inl (cJ, 512, .inr (.inl Vc))), (s1, .inr (0, [.ref ka, .ref va, .int (nI n9)])), (ka, .inl (cJ, 512, .inr (.inl K9))), (va, .inl (cJ, 512, .inr (.inl V9)))] H := hP.sub [0, 1, 2, 3, 4, 5, 6] rfl
      have hD : va_D A [(x, .inr (1, [.ref s0, .ref s1, .ref s2, .ref s3, .ref s4, .ref s5, .ref s6, .long tape, .long turn])), (s0, .inr (0, [.ref kac, .ref vac, .int (nI nc)])), (kac, .inl (cJ, 512, .inr (.inl Kc))), (vac, .inl (cJ, 512, .inr (.inl Vc))), (s1, .inr (0, [.ref ka, .ref va, .int (nI n9)])), (ka, .inl (cJ, 512, .inr (.inl K9))), (va, .inl (cJ, 512, .inr (.inl V9)))] := hD.sub [0, 1, 2, 3, 4, 5, 6] (by decide) rfl
      obtain ⟨rfl, rfl, rfl⟩ : n = n9 ∧ vp_updL ((cmpF (fun _ v => pB (∃ j, j < nc ∧ Kc j = v)) K V i).2.1) ((cmpF (fun _ v => pB (∃ j, j < nc ∧ Kc j = v)) K V i).1) (((cmpF (fun _ v => pB (∃ j, j < nc ∧ Kc j = v)) K V i).2.1) i) = K9 ∧ vp_updL ((cmpF (fun _ v => pB (∃ j, j < nc ∧ Kc j = v)) K V i).2.2) ((cmpF (fun _ v => pB (∃ j, j < nc ∧ Kc j = v)) K V i).1) (((cmpF (fun _ v => pB (∃ j, j < nc ∧ Kc j = v)) K V i).2.2) i) = V9 := by injection hr_8 with a1 a2; injection a2 with a2 a3; exact ⟨a1.symm, a2.symm, a3.symm⟩
      refine lv_iinc (v := nI ((cmpF (fun _ v => pB (∃ j, j < nc ∧ Kc j = v)) K V i).1 + 1)) (lv' := [(1, .int (nI ((cmpF (fun _ v => pB (∃ j, j < nc ∧ Kc j = v)) K V i).1 + 1))), (0, .ref x), (2, .int (nI i))]) hx hb dX1_retain_42 hl (k := 1) rfl (nI_add ((cmpF (fun _ v => pB (∃ j, j < nc ∧ Kc j = v)) K V i).1) 1) (by decide) rfl (fun ls hl => ?_)
      obtain ⟨hc1, hc2, hc3⟩ := cmpF_yes (P := (fun _ v => pB (∃ j, j < nc ∧ Kc j = v))) (K := K) (V := V) (i := i) (pB_t hho)
      rw [← hc2, ← hc3] at hP hD
      rw [← hc1] at hl
      have hl : lv_has ls 3 [(1, .int (nI ((cmpF (fun _ v => pB (∃ j, j < nc ∧ Kc j = v)) K V (i + 1)).1))), (0, .ref x), (2, .int (nI i))] := hl
      have hP : va_P D vwCl [(x, .inr (1, [.ref s0, .ref s1, .ref s2, .ref s3, .ref s4, .ref s5, .ref s6, .long tape, .long turn])), (s0, .inr (0, [.ref kac, .ref vac, .int (nI nc)])), (kac, .inl (cJ, 512, .inr (.inl Kc))), (vac, .inl (cJ, 512, .inr (.inl Vc))), (s1, .inr (0, [.ref ka, .ref va, .int (nI n)])), (ka, .inl (cJ, 512, .inr (.inl ((cmpF (fun _ v => pB (∃ j, j < nc ∧ Kc j = v)) K V (i + 1)).2.1)))), (va, .inl (cJ, 512, .inr (.inl ((cmpF (fun _ v => pB (∃ j, j < nc ∧ Kc j = v)) K V (i + 1)).2.2))))] H := hP
      have hD : va_D A [(x, .inr (1, [.ref s0, .ref s1, .ref s2, .ref s3, .ref s4, .ref s5, .ref s6, .long tape, .long turn])), (s0, .inr (0, [.ref kac, .ref vac, .int (nI nc)])), (kac, .inl (cJ, 512, .inr (.inl Kc))), (vac, .inl (cJ, 512, .inr (.inl Vc))), (s1, .inr (0, [.ref ka, .ref va, .int (nI n)])), (ka, .inl (cJ, 512, .inr (.inl ((cmpF (fun _ v => pB (∃ j, j < nc ∧ Kc j = v)) K V (i + 1)).2.1)))), (va, .inl (cJ, 512, .inr (.inl ((cmpF (fun _ v => pB (∃ j, j < nc ∧ Kc j = v)) K V (i + 1)).2.2))))] := hD
      refine lv_iinc (v := nI (i + 1)) (lv' := [(2, .int (nI (i + 1))), (1, .int (nI ((cmpF (fun _ v => pB (∃ j, j < nc ∧ Kc j = v)) K V (i + 1)).1))), (0, .ref x)]) hx hb dX1_retain_45 hl (k := 2) rfl (nI_add i 1) (by decide) rfl (fun ls hl => ?_)
      refine lv_goto (tgt := 4) hx hb dX1_retain_48 (by decide) ?_
      exact ih (i + 1) _ _ _ ⟨hP, hD, hS, lv_sub hl [2, 1, 0] rfl, by omega⟩ (by first | omega | (dsimp only; omega))
    · refine lv_if_eq (tgt := 45) hx hb dX1_retain_30 (by decide) (fun _ => ?_) (fun q => absurd (by decide) q)
      have hc := cmpF_no (P := (fun _ v => pB (∃ j, j < nc ∧ Kc j = v))) (K := K) (V := V) (i := i) (pB_f (fun q => q.elim fun j h => hho j h.1 h.2))
      rw [← hc] at hP hD hl
      have hl : lv_has ls 3 [(0, .ref x), (1, .int (nI ((cmpF (fun _ v => pB (∃ j, j < nc ∧ Kc j = v)) K V (i + 1)).1))), (2, .int (nI i))] := hl
      have hP : va_P D vwCl [(x, .inr (1, [.ref s0, .ref s1, .ref s2, .ref s3, .ref s4, .ref s5, .ref s6, .long tape, .long turn])), (s0, .inr (0, [.ref kac, .ref vac, .int (nI nc)])), (kac, .inl (cJ, 512, .inr (.inl Kc))), (vac, .inl (cJ, 512, .inr (.inl Vc))), (s1, .inr (0, [.ref ka, .ref va, .int (nI n)])), (ka, .inl (cJ, 512, .inr (.inl ((cmpF (fun _ v => pB (∃ j, j < nc ∧ Kc j = v)) K V (i + 1)).2.1)))), (va, .inl (cJ, 512, .inr (.inl ((cmpF (fun _ v => pB (∃ j, j < nc ∧ Kc j = v)) K V (i + 1)).2.2))))] H := hP
      have hD : va_D A [(x, .inr (1, [.ref s0, .ref s1, .ref s2, .ref s3, .ref s4, .ref s5, .ref s6, .long tape, .long turn])), (s0, .inr (0, [.ref kac, .ref vac, .int (nI nc)])), (kac, .inl (cJ, 512, .inr (.inl Kc))), (vac, .inl (cJ, 512, .inr (.inl Vc))), (s1, .inr (0, [.ref ka, .ref va, .int (nI n)])), (ka, .inl (cJ, 512, .inr (.inl ((cmpF (fun _ v => pB (∃ j, j < nc ∧ Kc j = v)) K V (i + 1)).2.1)))), (va, .inl (cJ, 512, .inr (.inl ((cmpF (fun _ v => pB (∃ j, j < nc ∧ Kc j = v)) K V (i + 1)).2.2))))] := hD
      refine lv_iinc (v := nI (i + 1)) (lv' := [(2, .int (nI (i + 1))), (0, .ref x), (1, .int (nI ((cmpF (fun _ v => pB (∃ j, j < nc ∧ Kc j = v)) K V (i + 1)).1)))]) hx hb dX1_retain_45 hl (k := 2) rfl (nI_add i 1) (by decide) rfl (fun ls hl => ?_)
      refine lv_goto (tgt := 4) hx hb dX1_retain_48 (by decide) ?_
      exact ih (i + 1) _ _ _ ⟨hP, hD, hS, lv_sub hl [1, 2, 0] rfl, by omega⟩ (by first | omega | (dsimp only; omega))

set_option maxHeartbeats 4000000 in
set_option maxRecDepth 100000 in
theorem c_X1_rank (l : Launch) (D : va_G) (cI cJ : ClassId) (x s0 s1 s2 s3 s4 s5 s6 : Nat) (tape turn : Int64) (ka va n : Nat) (K V : Nat → Int64) (hn : n ≤ 512) (hs : Srt n K) (hn1 : n < 512) (a b v : Int32) (sz : Nat) : Met l yX1_rank wsX1_rank { frames := 3, cells := 0, slots := 0, locals := 78 } (va_Pc [.ref x, .int a, .int b, .int v] (wP D cI cJ [(x, .inr (1, [.ref s0, .ref s1, .ref s2, .ref s3, .ref s4, .ref s5, .ref s6, .long tape, .long turn])), (s2, .inr (0, [.ref ka, .ref va, .int (nI n)])), (ka, .inl (cJ, 512, .inr (.inl K))), (va, .inl (cJ, 512, .inr (.inl V)))] sz)) (va_Ql (fun r (u : SS) => StR n K V (pk a b) v.toInt64 r u) (wB D cI cJ (va_A [(x, .inr (1, [.ref s0, .ref s1, .ref s2, .ref s3, .ref s4, .ref s5, .ref s6, .long tape, .long turn])), (s2, .inr (0, [.ref ka, .ref va, .int (nI n)])), (ka, .inl (cJ, 512, .inr (.inl K))), (va, .inl (cJ, 512, .inr (.inl V)))] sz) (fun (n', K', V') => [(x, .inr (1, [.ref s0, .ref s1, .ref s2, .ref s3, .ref s4, .ref s5, .ref s6, .long tape, .long turn])), (s2, .inr (0, [.ref ka, .ref va, .int (nI n')])), (ka, .inl (cJ, 512, .inr (.inl K'))), (va, .inl (cJ, 512, .inr (.inl V')))])) (va_A [(x, .inr (1, [.ref s0, .ref s1, .ref s2, .ref s3, .ref s4, .ref s5, .ref s6, .long tape, .long turn])), (s2, .inr (0, [.ref ka, .ref va, .int (nI n)])), (ka, .inl (cJ, 512, .inr (.inl K))), (va, .inl (cJ, 512, .inr (.inl V)))] sz)) 0 0 (va_A [(x, .inr (1, [.ref s0, .ref s1, .ref s2, .ref s3, .ref s4, .ref s5, .ref s6, .long tape, .long turn])), (s2, .inr (0, [.ref ka, .ref va, .int (nI n)])), (ka, .inl (cJ, 512, .inr (.inl K))), (va, .inl (cJ, 512, .inr (.inl V)))] sz) := by
  refine Met.ofW (cc := cX1_rank) (maxL := 4) (ret := (some .long)) (by decide) rfl ?_
  intro p e s m args below meth c s₁ B hml hv
  obtain ⟨rfl, hsz, hP, hK, hD0⟩ := hv
  have hx := B.exec
  have hb := B.bytes
  have hr := B.returns
  have hts := atoms_spec (ws := wsX1_rank) B.pre
  have hown : s.vm.findClass RX1 = some m.cls := findClass_of_methodNamed B.named
  have hlocks := B.notSynchronized
  have lk0 := hts (.fieldLink RX1 21 "KeyHall" "rising" "LKeyHall$Sorted;") (by decide +kernel)
  have lk1 : ∀ w ∈ wsX10, w ∈ wsX1_rank := by decide +kernel
  subst hsz
  have hD := hD0.self (sz := s.heap.size)
  generalize hAe : va_A [(x, .inr (1, [.ref s0, .ref s1, .ref s2, .ref s3, .ref s4, .ref s5, .ref s6, .long tape, .long turn])), (s2, .inr (0, [.ref ka, .ref va, .int (nI n)])), (ka, .inl (cJ, 512, .inr (.inl K))), (va, .inl (cJ, 512, .inr (.inl V)))] s.heap.size = A at hD ⊢
  have hA : ∀ q : Nat, s.heap.size ≤ q → A q := fun q h => by rw [← hAe]; exact Or.inr h
  have hS : va_S A s.heap s.heap [] := va_S.rf
  have hP : va_P D vwCl [(x, .inr (1, [.ref s0, .ref s1, .ref s2, .ref s3, .ref s4, .ref s5, .ref s6, .long tape, .long turn])), (s2, .inr (0, [.ref ka, .ref va, .int (nI n)])), (ka, .inl (cJ, 512, .inr (.inl K))), (va, .inl (cJ, 512, .inr (.inl V)))] s.heap := hP
  have hl := lv_entry ([.ref x, .int a, .int b, .int v]) (n := 4) (Nat.le_of_ble_eq_true rfl)
  rw [lg_entry_eq]
  generalize (lg_sl ([.ref x, .int a, .int b, .int v]) ++ List.replicate (4 - (lg_sl ([.ref x, .int a, .int b, .int v])).length) Slot.unset).toArray = ls at hl ⊢
  have hl : lv_has ls 4 [(0, .ref x), (1, .int a), (2, .int b), (3, .int v)] := hl
  refine lv_aload_n hx hb dX1_rank_0 rfl (lv_at hl 0 rfl) ?_
  refine va_get (D := D) (ci := 1) (v := .ref s2) (C := RX1) (T := TX1) (N := 9) hx hb hts lk1 hown hK hP 0 rfl rfl 2 (by decide) lk0 (fun _ h9 => h9) rfl dX1_rank_1 ?_
  refine lv_iload_n hx hb dX1_rank_4 rfl (lv_at hl 1 rfl) ?_
  refine lv_iload_n hx hb dX1_rank_5 rfl (lv_at hl 2 rfl) ?_
  refine vp_callSl (va_Run.run (va_runS (As := [.int a, .int b]) (rest := [.ref s2]) ⟨hx, hb, hml, hown, hts⟩ (c_X1_pairKey l a b) (va_cwS 2 hts gX1_rank_X1_pairKey rfl rfl rfl (by decide +kernel) ⟨Nat.le_of_ble_eq_true rfl, Nat.le_of_ble_eq_true rfl⟩) z_preT rfl rfl hl.1 rfl (lv_room (Nat.le_of_ble_eq_true rfl)) dX1_rank_6 ⟨Nat.zero_le _, Nat.zero_le _⟩)) (fun r_1 hr_1 => ?_)
  replace hr_1 := hr_1.symm
  subst hr_1
  refine lv_iload_n hx hb dX1_rank_9 rfl (lv_at hl 3 rfl) ?_
  refine lv_i2l (v := v.toInt64) hx hb dX1_rank_10 rfl ?_
  have hFc := va_free (wc := [(s2, .inr (0, [.ref ka, .ref va, .int (nI n)])), (ka, .inl (cJ, 512, .inr (.inl K))), (va, .inl (cJ, 512, .inr (.inl V)))]) hD hS hA [1, 2, 3] rfl
  refine va_calll (va_runV (As := [.long (pk a b), .long v.toInt64]) (rest := []) ⟨hx, hb, hml, hown, hts⟩ (c_X0_store l D cI cJ s2 ka va 512 n K V (pk a b) v.toInt64 (by omega) (by omega) (by assumption) (by omega) s.heap.size) (cwV 2 hts gX1_rank_X0_store rfl rfl rfl (by decide +kernel) ⟨Nat.le_of_ble_eq_true rfl, Nat.le_of_ble_eq_true rfl⟩) (z_preVw hK hP hD [1, 2, 3] (by decide) rfl rfl 0 1 rfl rfl) rfl rfl hl.1 rfl (lv_room (Nat.le_of_ble_eq_true rfl)) dX1_rank_11 ⟨Nat.zero_le _, Nat.zero_le _⟩) hS (fun q _ h => hFc q h) hFc (fun r_3 u_2 t H1 locs ht hvm hr_3 hB hzz1 hkk1 hS => ?_)
  obtain ⟨n4, K4, V4⟩ := u_2
  obtain ⟨hP1, hK1, hD1⟩ := hB
  rw [ht] at hP1
  try dsimp only at hr_3
  obtain ⟨hP, hD⟩ := va_join (wr := [(x, .inr (1, [.ref s0, .ref s1, .ref s2, .ref s3, .ref s4, .ref s5, .ref s6, .long tape, .long turn]))]) (w1 := [(s2, .inr (0, [.ref ka, .ref va, .int (nI n4)])), (ka, .inl (cJ, 512, .inr (.inl K4))), (va, .inl (cJ, 512, .inr (.inl V4)))]) hP hD [1, 2, 3] [0] rfl rfl (by decide) (by decide) hkk1 hFc hP1 hD1
  generalize H1 = H at hP hS ⊢
  have hP : va_P D vwCl [(x, .inr (1, [.ref s0, .ref s1, .ref s2, .ref s3, .ref s4, .ref s5, .ref s6, .long tape, .long turn])), (s2, .inr (0, [.ref ka, .ref va, .int (nI n4)])), (ka, .inl (cJ, 512, .inr (.inl K4))), (va, .inl (cJ, 512, .inr (.inl V4)))] H := hP.sub [0, 1, 2, 3] rfl
  have hD : va_D A [(x, .inr (1, [.ref s0, .ref s1, .ref s2, .ref s3, .ref s4, .ref s5, .ref s6, .long tape, .long turn])), (s2, .inr (0, [.ref ka, .ref va, .int (nI n4)])), (ka, .inl (cJ, 512, .inr (.inl K4))), (va, .inl (cJ, 512, .inr (.inl V4)))] := hD.sub [0, 1, 2, 3] (by decide) rfl
  exact W.lret (v := r_3) hx hb hr (fun t ht hW => ⟨⟨r_3, (n4, K4, V4), rfl, hr_3, by rw [ht]; exact hP, va_K.moved hW.alike hK, hD⟩, hS.F ht⟩) hS.2.2 dX1_rank_14

set_option maxHeartbeats 4000000 in
set_option maxRecDepth 100000 in
theorem c_X1_put (l : Launch) (D : va_G) (cI cJ : ClassId) (x s0 s1 s2 s3 s4 s5 s6 : Nat) (tape turn : Int64) (ka va n : Nat) (K V : Nat → Int64) (hn : n ≤ 512) (hs : Srt n K) (hn1 : n < 512) (a b v : Int32) (sz : Nat) : Met l yX1_put wsX1_put { frames := 3, cells := 0, slots := 0, locals := 78 } (va_Pc [.ref x, .int a, .int b, .int v] (wP D cI cJ [(x, .inr (1, [.ref s0, .ref s1, .ref s2, .ref s3, .ref s4, .ref s5, .ref s6, .long tape, .long turn])), (s4, .inr (0, [.ref ka, .ref va, .int (nI n)])), (ka, .inl (cJ, 512, .inr (.inl K))), (va, .inl (cJ, 512, .inr (.inl V)))] sz)) (va_Ql (fun r (u : SS) => StR n K V (pk a b) v.toInt64 r u) (wB D cI cJ (va_A [(x, .inr (1, [.ref s0, .ref s1, .ref s2, .ref s3, .ref s4, .ref s5, .ref s6, .long tape, .long turn])), (s4, .inr (0, [.ref ka, .ref va, .int (nI n)])), (ka, .inl (cJ, 512, .inr (.inl K))), (va, .inl (cJ, 512, .inr (.inl V)))] sz) (fun (n', K', V') => [(x, .inr (1, [.ref s0, .ref s1, .ref s2, .ref s3, .ref s4, .ref s5, .ref s6, .long tape, .long turn])), (s4, .inr (0, [.ref ka, .ref va, .int (nI n')])), (ka, .inl (cJ, 512, .inr (.inl K'))), (va, .inl (cJ, 512, .inr (.inl V')))])) (va_A [(x, .inr (1, [.ref s0, .ref s1, .ref s2, .ref s3, .ref s4, .ref s5, .ref s6, .long tape, .long turn])), (s4, .inr (0, [.ref ka, .ref va, .int (nI n)])), (ka, .inl (cJ, 512, .inr (.inl K))), (va, .inl (cJ, 512, .inr (.inl V)))] sz)) 0 0 (va_A [(x, .inr (1, [.ref s0, .ref s1, .ref s2, .ref s3, .ref s4, .ref s5, .ref s6, .long tape, .long turn])), (s4, .inr (0, [.ref ka, .ref va, .int (nI n)])), (ka, .inl (cJ, 512, .inr (.inl K))), (va, .inl (cJ, 512, .inr (.inl V)))] sz) := by
  refine Met.ofW (cc := cX1_put) (maxL := 4) (ret := (some .long)) (by decide) rfl ?_
  intro p e s m args below meth c s₁ B hml hv
  obtain ⟨rfl, hsz, hP, hK, hD0⟩ := hv
  have hx := B.exec
  have hb := B.bytes
  have hr := B.returns
  have hts := atoms_spec (ws := wsX1_put) B.pre
  have hown : s.vm.findClass RX1 = some m.cls := findClass_of_methodNamed B.named
  have hlocks := B.notSynchronized
  have lk0 := hts (.fieldLink RX1 27 "KeyHall" "table" "LKeyHall$Sorted;") (by decide +kernel)
  have lk1 : ∀ w ∈ wsX10, w ∈ wsX1_put := by decide +kernel
  subst hsz
  have hD := hD0.self (sz := s.heap.size)
  generalize hAe : va_A [(x, .inr (1, [.ref s0, .ref s1, .ref s2, .ref s3, .ref s4, .ref s5, .ref s6, .long tape, .long turn])), (s4, .inr (0, [.ref ka, .ref va, .int (nI n)])), (ka, .inl (cJ, 512, .inr (.inl K))), (va, .inl (cJ, 512, .inr (.inl V)))] s.heap.size = A at hD ⊢
  have hA : ∀ q : Nat, s.heap.size ≤ q → A q := fun q h => by rw [← hAe]; exact Or.inr h
  have hS : va_S A s.heap s.heap [] := va_S.rf
  have hP : va_P D vwCl [(x, .inr (1, [.ref s0, .ref s1, .ref s2, .ref s3, .ref s4, .ref s5, .ref s6, .long tape, .long turn])), (s4, .inr (0, [.ref ka, .ref va, .int (nI n)])), (ka, .inl (cJ, 512, .inr (.inl K))), (va, .inl (cJ, 512, .inr (.inl V)))] s.heap := hP
  have hl := lv_entry ([.ref x, .int a, .int b, .int v]) (n := 4) (Nat.le_of_ble_eq_true rfl)
  rw [lg_entry_eq]
  generalize (lg_sl ([.ref x, .int a, .int b, .int v]) ++ List.replicate (4 - (lg_sl ([.ref x, .int a, .int b, .int v])).length) Slot.unset).toArray = ls at hl ⊢
  have hl : lv_has ls 4 [(0, .ref x), (1, .int a), (2, .int b), (3, .int v)] := hl
  refine lv_aload_n hx hb dX1_put_0 rfl (lv_at hl 0 rfl) ?_
  refine va_get (D := D) (ci := 1) (v := .ref s4) (C := RX1) (T := TX1) (N := 9) hx hb hts lk1 hown hK hP 0 rfl rfl 4 (by decide) lk0 (fun _ h9 => h9) rfl dX1_put_1 ?_
  refine lv_iload_n hx hb dX1_put_4 rfl (lv_at hl 1 rfl) ?_
  refine lv_iload_n hx hb dX1_put_5 rfl (lv_at hl 2 rfl) ?_
  refine vp_callSl (va_Run.run (va_runS (As := [.int a, .int b]) (rest := [.ref s4]) ⟨hx, hb, hml, hown, hts⟩ (c_X1_pairKey l a b) (va_cwS 2 hts gX1_put_X1_pairKey rfl rfl rfl (by decide +kernel) ⟨Nat.le_of_ble_eq_true rfl, Nat.le_of_ble_eq_true rfl⟩) z_preT rfl rfl hl.1 rfl (lv_room (Nat.le_of_ble_eq_true rfl)) dX1_put_6 ⟨Nat.zero_le _, Nat.zero_le _⟩)) (fun r_1 hr_1 => ?_)
  replace hr_1 := hr_1.symm
  subst hr_1
  refine lv_iload_n hx hb dX1_put_9 rfl (lv_at hl 3 rfl) ?_
  refine lv_i2l (v := v.toInt64) hx hb dX1_put_10 rfl ?_
  have hFc := va_free (wc := [(s4, .inr (0, [.ref ka, .ref va, .int (nI n)])), (ka, .inl (cJ, 512, .inr (.inl K))), (va, .inl (cJ, 512, .inr (.inl V)))]) hD hS hA [1, 2, 3] rfl
  refine va_calll (va_runV (As := [.long (pk a b), .long v.toInt64]) (rest := []) ⟨hx, hb, hml, hown, hts⟩ (c_X0_store l D cI cJ s4 ka va 512 n K V (pk a b) v.toInt64 (by omega) (by omega) (by assumption) (by omega) s.heap.size) (cwV 2 hts gX1_put_X0_store rfl rfl rfl (by decide +kernel) ⟨Nat.le_of_ble_eq_true rfl, Nat.le_of_ble_eq_true rfl⟩) (z_preVw hK hP hD [1, 2, 3] (by decide) rfl rfl 0 1 rfl rfl) rfl rfl hl.1 rfl (lv_room (Nat.le_of_ble_eq_true rfl)) dX1_put_11 ⟨Nat.zero_le _, Nat.zero_le _⟩) hS (fun q _ h => hFc q h) hFc (fun r_3 u_2 t H1 locs ht hvm hr_3 hB hzz1 hkk1 hS => ?_)
  obtain ⟨n4, K4, V4⟩ := u_2
  obtain ⟨hP1, hK1, hD1⟩ := hB
  rw [ht] at hP1
  try dsimp only at hr_3
  obtain ⟨hP, hD⟩ := va_join (wr := [(x, .inr (1, [.ref s0, .ref s1, .ref s2, .ref s3, .ref s4, .ref s5, .ref s6, .long tape, .long turn]))]) (w1 := [(s4, .inr (0, [.ref ka, .ref va, .int (nI n4)])), (ka, .inl (cJ, 512, .inr (.inl K4))), (va, .inl (cJ, 512, .inr (.inl V4)))]) hP hD [1, 2, 3] [0] rfl rfl (by decide) (by decide) hkk1 hFc hP1 hD1
  generalize H1 = H at hP hS ⊢
  have hP : va_P D vwCl [(x, .inr (1, [.ref s0, .ref s1, .ref s2, .ref s3, .ref s4, .ref s5, .ref s6, .long tape, .long turn])), (s4, .inr (0, [.ref ka, .ref va, .int (nI n4)])), (ka, .inl (cJ, 512, .inr (.inl K4))), (va, .inl (cJ, 512, .inr (.inl V4)))] H := hP.sub [0, 1, 2, 3] rfl
  have hD : va_D A [(x, .inr (1, [.ref s0, .ref s1, .ref s2, .ref s3, .ref s4, .ref s5, .ref s6, .long tape, .long turn])), (s4, .inr (0, [.ref ka, .ref va, .int (nI n4)])), (ka, .inl (cJ, 512, .inr (.inl K4))), (va, .inl (cJ, 512, .inr (.inl V4)))] := hD.sub [0, 1, 2, 3] (by decide) rfl
  exact W.lret (v := r_3) hx hb hr (fun t ht hW => ⟨⟨r_3, (n4, K4, V4), rfl, hr_3, by rw [ht]; exact hP, va_K.moved hW.alike hK, hD⟩, hS.F ht⟩) hS.2.2 dX1_put_14

set_option maxHeartbeats 4000000 in
set_option maxRecDepth 100000 in
theorem c_X1_get (l : Launch) (D : va_G) (cI cJ : ClassId) (x s0 s1 s2 s3 s4 s5 s6 : Nat) (tape turn : Int64) (ka va n : Nat) (K V : Nat → Int64) (hn : n ≤ 512) (hs : Srt n K) (a b : Int32) : Met l yX1_get wsX1_get { frames := 3, cells := 0, slots := 0, locals := 67 } (va_Pc [.ref x, .int a, .int b] (rP D cI cJ [(x, .inr (1, [.ref s0, .ref s1, .ref s2, .ref s3, .ref s4, .ref s5, .ref s6, .long tape, .long turn])), (s4, .inr (0, [.ref ka, .ref va, .int (nI n)])), (ka, .inl (cJ, 512, .inr (.inl K))), (va, .inl (cJ, 512, .inr (.inl V)))])) (vp_Sl (fun r => LkR n K V (pk a b) r)) 0 0 (fun _ => False) := by
  refine Met.ofW (cc := cX1_get) (maxL := 3) (ret := (some .long)) (by decide) rfl ?_
  intro p e s m args below meth c s₁ B hml hv
  obtain ⟨rfl, hP, hK⟩ := hv
  have hx := B.exec
  have hb := B.bytes
  have hr := B.returns
  have hts := atoms_spec (ws := wsX1_get) B.pre
  have hown : s.vm.findClass RX1 = some m.cls := findClass_of_methodNamed B.named
  have hlocks := B.notSynchronized
  have lk0 := hts (.fieldLink RX1 27 "KeyHall" "table" "LKeyHall$Sorted;") (by decide +kernel)
  have lk1 : ∀ w ∈ wsX10, w ∈ wsX1_get := by decide +kernel
  have hl := lv_entry ([.ref x, .int a, .int b]) (n := 3) (Nat.le_of_ble_eq_true rfl)
  rw [lg_entry_eq]
  generalize (lg_sl ([.ref x, .int a, .int b]) ++ List.replicate (3 - (lg_sl ([.ref x, .int a, .int b])).length) Slot.unset).toArray = ls at hl ⊢
  have hl : lv_has ls 3 [(0, .ref x), (1, .int a), (2, .int b)] := hl
  refine lv_aload_n hx hb dX1_get_0 rfl (lv_at hl 0 rfl) ?_
  refine va_get (D := D) (ci := 1) (v := .ref s4) (C := RX1) (T := TX1) (N := 9) hx hb hts lk1 hown hK hP 0 rfl rfl 4 (by decide) lk0 (fun _ h9 => h9) rfl dX1_get_1 ?_
  refine lv_aload_n hx hb dX1_get_4 rfl (lv_at hl 0 rfl) ?_
  refine va_get (D := D) (ci := 1) (v := .ref s4) (C := RX1) (T := TX1) (N := 9) hx hb hts lk1 hown hK hP 0 rfl rfl 4 (by decide) lk0 (fun _ h9 => h9) rfl dX1_get_5 ?_
  refine lv_iload_n hx hb dX1_get_8 rfl (lv_at hl 1 rfl) ?_
  refine lv_iload_n hx hb dX1_get_9 rfl (lv_at hl 2 rfl) ?_
  refine vp_callSl (va_Run.run (va_runS (As := [.int a, .int b]) (rest := [.ref s4, .ref s4]) ⟨hx, hb, hml, hown, hts⟩ (c_X1_pairKey l a b) (va_cwS 2 hts gX1_get_X1_pairKey rfl rfl rfl (by decide +kernel) ⟨Nat.le_of_ble_eq_true rfl, Nat.le_of_ble_eq_true rfl⟩) z_preT rfl rfl hl.1 rfl (lv_room (Nat.le_of_ble_eq_true rfl)) dX1_get_10 ⟨Nat.zero_le _, Nat.zero_le _⟩)) (fun r_1 hr_1 => ?_)
  replace hr_1 := hr_1.symm
  subst hr_1
  refine vp_callSi (va_Run.run (va_runV (As := [.long (pk a b)]) (rest := [.ref s4]) ⟨hx, hb, hml, hown, hts⟩ (c_X0_find l D cI cJ s4 ka va 512 n K V (pk a b) (by omega) (by omega) (by assumption)) (cwV 1 hts gX1_get_X0_find rfl rfl rfl (by decide +kernel) ⟨Nat.le_of_ble_eq_true rfl, Nat.le_of_ble_eq_true rfl⟩) (z_preV hK hP [1, 2, 3] rfl 0 1 rfl rfl) rfl rfl hl.1 rfl (lv_room (Nat.le_of_ble_eq_true rfl)) dX1_get_13 ⟨Nat.zero_le _, Nat.zero_le _⟩)) (fun r_2 hr_2 => ?_)
  rcases hr_2 with ⟨j_3, hj, hje, rfl⟩ | ⟨hnf, rfl⟩
  · have hj31 : j_3 < 2 ^ 31 := by omega
    refine vp_callSl (va_Run.run (va_runV (As := [.int (nI j_3)]) (rest := []) ⟨hx, hb, hml, hown, hts⟩ (c_X0_valueAt l D cI cJ s4 ka va 512 n K V (nI j_3) (by omega) (by omega)) (cwV 1 hts gX1_get_X0_valueAt rfl rfl rfl (by decide +kernel) ⟨Nat.le_of_ble_eq_true rfl, Nat.le_of_ble_eq_true rfl⟩) (z_preV hK hP [1, 2, 3] rfl 0 1 rfl rfl) rfl rfl hl.1 rfl (lv_room (Nat.le_of_ble_eq_true rfl)) dX1_get_16 ⟨Nat.zero_le _, Nat.zero_le _⟩)) (fun r_4 hr_4 => ?_)
    replace hr_4 := hr_4.symm
    subst hr_4
    refine z_topl (y := V j_3) (vAt_N (by omega) (hj)) ?_
    exact W.lret (v := V j_3) hx hb hr (fun t ht hW => ⟨V j_3, rfl, Or.inl ⟨j_3, hj, hje, rfl⟩, ht⟩) (fun _ h => nomatch h) dX1_get_19
  · refine vp_callSl (va_Run.run (va_runV (As := [.int (-1)]) (rest := []) ⟨hx, hb, hml, hown, hts⟩ (c_X0_valueAt l D cI cJ s4 ka va 512 n K V (-1) (by omega) (by omega)) (cwV 1 hts gX1_get_X0_valueAt rfl rfl rfl (by decide +kernel) ⟨Nat.le_of_ble_eq_true rfl, Nat.le_of_ble_eq_true rfl⟩) (z_preV hK hP [1, 2, 3] rfl 0 1 rfl rfl) rfl rfl hl.1 rfl (lv_room (Nat.le_of_ble_eq_true rfl)) dX1_get_16 ⟨Nat.zero_le _, Nat.zero_le _⟩)) (fun r_5 hr_5 => ?_)
    replace hr_5 := hr_5.symm
    subst hr_5
    exact W.lret (v := vAt n V (-1)) hx hb hr (fun t ht hW => ⟨vAt n V (-1), rfl, Or.inr ⟨hnf, vAt_out (m1_out n)⟩, ht⟩) (fun _ h => nomatch h) dX1_get_19

set_option maxHeartbeats 4000000 in
set_option maxRecDepth 100000 in
theorem c_X1_near (l : Launch) (D : va_G) (cI cJ : ClassId) (x s0 s1 s2 s3 s4 s5 s6 : Nat) (tape turn : Int64) (ka va n : Nat) (K V : Nat → Int64) (hn : n ≤ 512) (hs : Srt n K) (a b : Int32) (dn sm : Nat) (hdn : dn ≤ 1) (hsm : sm ≤ 1) : Met l yX1_near wsX1_near { frames := 2, cells := 0, slots := 0, locals := 46 } (va_Pc [.ref x, .int a, .int b, .int (nI dn), .int (nI sm)] (rP D cI cJ [(x, .inr (1, [.ref s0, .ref s1, .ref s2, .ref s3, .ref s4, .ref s5, .ref s6, .long tape, .long turn])), (s2, .inr (0, [.ref ka, .ref va, .int (nI n)])), (ka, .inl (cJ, 512, .inr (.inl K))), (va, .inl (cJ, 512, .inr (.inl V)))])) (vp_Sl (fun r => NeR n K (pk a b) dn sm r)) 0 0 (fun _ => False) := by
  refine Met.ofW (cc := cX1_near) (maxL := 11) (ret := (some .long)) (by decide) rfl ?_
  intro p e s m args below meth c s₁ B hml hv
  obtain ⟨rfl, hP, hK⟩ := hv
  have hx := B.exec
  have hb := B.bytes
  have hr := B.returns
  have hts := atoms_spec (ws := wsX1_near) B.pre
  have hown : s.vm.findClass RX1 = some m.cls := findClass_of_methodNamed B.named
  have hlocks := B.notSynchronized
  have lk0 := hts (.fieldLink RX1 21 "KeyHall" "rising" "LKeyHall$Sorted;") (by decide +kernel)
  have lk1 : ∀ w ∈ wsX10, w ∈ wsX1_near := by decide +kernel
  have lk2 := hts (.constantLong RX1 105 (2147483648)) (by decide +kernel)
  have lk3 := hts (.constantLong RX1 94 (4611686018427387904)) (by decide +kernel)
  have hl := lv_entry ([.ref x, .int a, .int b, .int (nI dn), .int (nI sm)]) (n := 11) (Nat.le_of_ble_eq_true rfl)
  rw [lg_entry_eq]
  generalize (lg_sl ([.ref x, .int a, .int b, .int (nI dn), .int (nI sm)]) ++ List.replicate (11 - (lg_sl ([.ref x, .int a, .int b, .int (nI dn), .int (nI sm)])).length) Slot.unset).toArray = ls at hl ⊢
  have hl : lv_has ls 11 [(0, .ref x), (1, .int a), (2, .int b), (3, .int (nI dn)), (4, .int (nI sm))] := hl
  refine lv_iload_n hx hb dX1_near_0 rfl (lv_at hl 1 rfl) ?_
  refine lv_iload_n hx hb dX1_near_1 rfl (lv_at hl 2 rfl) ?_
  refine vp_callSl (va_Run.run (va_runS (As := [.int a, .int b]) (rest := []) ⟨hx, hb, hml, hown, hts⟩ (c_X1_pairKey l a b) (va_cwS 2 hts gX1_near_X1_pairKey rfl rfl rfl (by decide +kernel) ⟨Nat.le_of_ble_eq_true rfl, Nat.le_of_ble_eq_true rfl⟩) z_preT rfl rfl hl.1 rfl (lv_room (Nat.le_of_ble_eq_true rfl)) dX1_near_2 ⟨Nat.zero_le _, Nat.zero_le _⟩)) (fun r_1 hr_1 => ?_)
  replace hr_1 := hr_1.symm
  subst hr_1
  refine lv_lstore (lv' := [(5, .long (pk a b)), (0, .ref x), (1, .int a), (2, .int b), (3, .int (nI dn)), (4, .int (nI sm))]) hx hb dX1_near_5 hl (by decide) rfl (fun ls hl => ?_)
  refine lv_iload_n hx hb dX1_near_7 rfl (lv_at hl 4 rfl) ?_
  refine lv_iload hx hb dX1_near_8 (lv_at hl 5 rfl) ?_
  refine z_icmp_ne (tgt := 25) hx hb dX1_near_10 (by decide) (by omega) (by omega) (fun c_10 => ?_) (fun c_10 => ?_)
  · refine lv_aload_n hx hb dX1_near_25 rfl (lv_at hl 1 rfl) ?_
    refine va_get (D := D) (ci := 1) (v := .ref s2) (C := RX1) (T := TX1) (N := 9) hx hb hts lk1 hown hK hP 0 rfl rfl 2 (by decide) lk0 (fun _ h9 => h9) rfl dX1_near_26 ?_
    refine lv_lload hx hb dX1_near_29 (lv_at hl 0 rfl) ?_
    refine vp_callSi (va_Run.run (va_runV (As := [.long (pk a b)]) (rest := []) ⟨hx, hb, hml, hown, hts⟩ (c_X0_below l D cI cJ s2 ka va 512 n K V (pk a b) (by omega) (by omega) (by assumption)) (cwV 1 hts gX1_near_X0_below rfl rfl rfl (by decide +kernel) ⟨Nat.le_of_ble_eq_true rfl, Nat.le_of_ble_eq_true rfl⟩) (z_preV hK hP [1, 2, 3] rfl 0 1 rfl rfl) rfl rfl hl.1 rfl (lv_room (Nat.le_of_ble_eq_true rfl)) dX1_near_31 ⟨Nat.zero_le _, Nat.zero_le _⟩)) (fun r_2 hr_2 => ?_)
    obtain ⟨b_3, rfl, hb_3⟩ := hr_2
    have hb_3n := hb_3.1
    refine lv_istore (lv' := [(7, .int (nI b_3)), (5, .long (pk a b)), (0, .ref x), (1, .int a), (2, .int b), (3, .int (nI dn)), (4, .int (nI sm))]) hx hb dX1_near_34 hl (by decide) rfl (fun ls hl => ?_)
    refine lv_iload_n hx hb dX1_near_36 rfl (lv_at hl 5 rfl) ?_
    refine z_if_eq (tgt := 47) hx hb dX1_near_37 (by decide) (by omega) (fun c_37 => ?_) (fun c_37 => ?_)
    · refine lv_iload hx hb dX1_near_47 (lv_at hl 0 rfl) ?_
      refine lv_istore (lv' := [(8, .int (nI b_3)), (7, .int (nI b_3)), (5, .long (pk a b)), (0, .ref x), (1, .int a), (2, .int b), (3, .int (nI dn)), (4, .int (nI sm))]) hx hb dX1_near_49 hl (by decide) rfl (fun ls hl => ?_)
      refine lv_iload hx hb dX1_near_51 (lv_at hl 0 rfl) ?_
      refine z_if_lt (tgt := 68) hx hb dX1_near_53 (by decide) (by omega) ?_
      refine lv_iload hx hb dX1_near_56 (lv_at hl 0 rfl) ?_
      refine lv_aload_n hx hb dX1_near_58 rfl (lv_at hl 3 rfl) ?_
      refine va_get (D := D) (ci := 1) (v := .ref s2) (C := RX1) (T := TX1) (N := 9) hx hb hts lk1 hown hK hP 0 rfl rfl 2 (by decide) lk0 (fun _ h9 => h9) rfl dX1_near_59 ?_
      refine vp_callSi (va_Run.run (va_runV (As := []) (rest := [.int (nI b_3)]) ⟨hx, hb, hml, hown, hts⟩ (c_X0_held l D cI cJ s2 ka va 512 n K V  ) (cwV 0 hts gX1_near_X0_held rfl rfl rfl (by decide +kernel) ⟨Nat.le_of_ble_eq_true rfl, Nat.le_of_ble_eq_true rfl⟩) (z_preV hK hP [1, 2, 3] rfl 0 1 rfl rfl) rfl rfl hl.1 rfl (lv_room (Nat.le_of_ble_eq_true rfl)) dX1_near_62 ⟨Nat.zero_le _, Nat.zero_le _⟩)) (fun r_4 hr_4 => ?_)
      replace hr_4 := hr_4.symm
      subst hr_4
      refine z_icmp_lt (tgt := 72) hx hb dX1_near_65 (by decide) (by omega) (by omega) (fun c_65 => ?_) (fun c_65 => ?_)
      · refine lv_aload_n hx hb dX1_near_72 rfl (lv_at hl 3 rfl) ?_
        refine va_get (D := D) (ci := 1) (v := .ref s2) (C := RX1) (T := TX1) (N := 9) hx hb hts lk1 hown hK hP 0 rfl rfl 2 (by decide) lk0 (fun _ h9 => h9) rfl dX1_near_73 ?_
        refine lv_iload hx hb dX1_near_76 (lv_at hl 0 rfl) ?_
        refine vp_callSl (va_Run.run (va_runV (As := [.int (nI b_3)]) (rest := []) ⟨hx, hb, hml, hown, hts⟩ (c_X0_keyAt l D cI cJ s2 ka va 512 n K V (nI b_3) (by omega) (by omega)) (cwV 1 hts gX1_near_X0_keyAt rfl rfl rfl (by decide +kernel) ⟨Nat.le_of_ble_eq_true rfl, Nat.le_of_ble_eq_true rfl⟩) (z_preV hK hP [1, 2, 3] rfl 0 1 rfl rfl) rfl rfl hl.1 rfl (lv_room (Nat.le_of_ble_eq_true rfl)) dX1_near_78 ⟨Nat.zero_le _, Nat.zero_le _⟩)) (fun r_5 hr_5 => ?_)
        replace hr_5 := hr_5.symm
        subst hr_5
        refine z_topl (y := K b_3) (vAt_N (by omega) (by omega)) ?_
        refine lv_lstore (lv' := [(9, .long (K b_3)), (8, .int (nI b_3)), (7, .int (nI b_3)), (5, .long (pk a b)), (0, .ref x), (1, .int a), (2, .int b), (3, .int (nI dn)), (4, .int (nI sm))]) hx hb dX1_near_81 hl (by decide) rfl (fun ls hl => ?_)
        refine lv_lload hx hb dX1_near_83 (lv_at hl 0 rfl) ?_
        refine vp_callSi (va_Run.run (va_runS (As := [.long (K b_3)]) (rest := []) ⟨hx, hb, hml, hown, hts⟩ (c_X1_firstOf l (K b_3)) (va_cwS 1 hts gX1_near_X1_firstOf rfl rfl rfl (by decide +kernel) ⟨Nat.le_of_ble_eq_true rfl, Nat.le_of_ble_eq_true rfl⟩) z_preT rfl rfl hl.1 rfl (lv_room (Nat.le_of_ble_eq_true rfl)) dX1_near_85 ⟨Nat.zero_le _, Nat.zero_le _⟩)) (fun r_6 hr_6 => ?_)
        replace hr_6 := hr_6.symm
        subst hr_6
        refine lv_i2l (v := (fsK (K b_3)).toInt64) hx hb dX1_near_88 rfl ?_
        refine lv_ldc2 hx hb hown lk2 dX1_near_89 ?_
        refine lv_lmul hx hb dX1_near_92 ?_
        refine lv_lload hx hb dX1_near_93 (lv_at hl 0 rfl) ?_
        refine vp_callSi (va_Run.run (va_runS (As := [.long (K b_3)]) (rest := [.long (((fsK (K b_3)).toInt64) * 2147483648)]) ⟨hx, hb, hml, hown, hts⟩ (c_X1_secondOf l (K b_3)) (va_cwS 1 hts gX1_near_X1_secondOf rfl rfl rfl (by decide +kernel) ⟨Nat.le_of_ble_eq_true rfl, Nat.le_of_ble_eq_true rfl⟩) z_preT rfl rfl hl.1 rfl (lv_room (Nat.le_of_ble_eq_true rfl)) dX1_near_95 ⟨Nat.zero_le _, Nat.zero_le _⟩)) (fun r_7 hr_7 => ?_)
        replace hr_7 := hr_7.symm
        subst hr_7
        refine lv_i2l (v := (snK (K b_3)).toInt64) hx hb dX1_near_98 rfl ?_
        refine lv_ladd hx hb dX1_near_99 ?_
        exact W.lret (v := (((fsK (K b_3)).toInt64) * 2147483648) + ((snK (K b_3)).toInt64)) hx hb hr (fun t ht hW => ⟨(((fsK (K b_3)).toInt64) * 2147483648) + ((snK (K b_3)).toInt64), rfl, ⟨b_3, Or.inr ⟨c_10, hb_3⟩, Or.inr ⟨c_37, Or.inl ⟨by omega, rfl⟩⟩⟩, ht⟩) (fun _ h => nomatch h) dX1_near_100
      · refine lv_ldc2 hx hb hown lk3 dX1_near_68 ?_
        exact W.lret (v := 4611686018427387904) hx hb hr (fun t ht hW => ⟨4611686018427387904, rfl, ⟨b_3, Or.inr ⟨c_10, hb_3⟩, Or.inr ⟨c_37, Or.inr ⟨by omega, rfl⟩⟩⟩, ht⟩) (fun _ h => nomatch h) dX1_near_71
    · refine lv_iload hx hb dX1_near_40 (lv_at hl 0 rfl) ?_
      refine lv_iconst (v := nI 1) hx hb dX1_near_42 (by decide) ?_
      refine lv_isub hx hb dX1_near_43 ?_
      refine lv_goto (tgt := 49) hx hb dX1_near_44 (by decide) ?_
      rcases Nat.eq_zero_or_pos b_3 with hz | hz
      · refine z_topi (y := (-1)) (by rw [hz]; rfl) ?_
        refine lv_istore (lv' := [(8, .int (-1)), (7, .int (nI b_3)), (5, .long (pk a b)), (0, .ref x), (1, .int a), (2, .int b), (3, .int (nI dn)), (4, .int (nI sm))]) hx hb dX1_near_49 hl (by decide) rfl (fun ls hl => ?_)
        refine lv_iload hx hb dX1_near_51 (lv_at hl 0 rfl) ?_
        refine lv_if_lt (tgt := 68) hx hb dX1_near_53 (by decide) (fun _ => ?_) (fun q => absurd (by decide) q)
        refine lv_ldc2 hx hb hown lk3 dX1_near_68 ?_
        exact W.lret (v := 4611686018427387904) hx hb hr (fun t ht hW => ⟨4611686018427387904, rfl, ⟨b_3, Or.inr ⟨c_10, hb_3⟩, Or.inl ⟨by omega, Or.inl ⟨hz, rfl⟩⟩⟩, ht⟩) (fun _ h => nomatch h) dX1_near_71
      · refine z_topi (y := nI (b_3 - 1)) (pk_sub hz) ?_
        refine lv_istore (lv' := [(8, .int (nI (b_3 - 1))), (7, .int (nI b_3)), (5, .long (pk a b)), (0, .ref x), (1, .int a), (2, .int b), (3, .int (nI dn)), (4, .int (nI sm))]) hx hb dX1_near_49 hl (by decide) rfl (fun ls hl => ?_)
        refine lv_iload hx hb dX1_near_51 (lv_at hl 0 rfl) ?_
        refine z_if_lt (tgt := 68) hx hb dX1_near_53 (by decide) (by omega) ?_
        refine lv_iload hx hb dX1_near_56 (lv_at hl 0 rfl) ?_
        refine lv_aload_n hx hb dX1_near_58 rfl (lv_at hl 3 rfl) ?_
        refine va_get (D := D) (ci := 1) (v := .ref s2) (C := RX1) (T := TX1) (N := 9) hx hb hts lk1 hown hK hP 0 rfl rfl 2 (by decide) lk0 (fun _ h9 => h9) rfl dX1_near_59 ?_
        refine vp_callSi (va_Run.run (va_runV (As := []) (rest := [.int (nI (b_3 - 1))]) ⟨hx, hb, hml, hown, hts⟩ (c_X0_held l D cI cJ s2 ka va 512 n K V  ) (cwV 0 hts gX1_near_X0_held rfl rfl rfl (by decide +kernel) ⟨Nat.le_of_ble_eq_true rfl, Nat.le_of_ble_eq_true rfl⟩) (z_preV hK hP [1, 2, 3] rfl 0 1 rfl rfl) rfl rfl hl.1 rfl (lv_room (Nat.le_of_ble_eq_true rfl)) dX1_near_62 ⟨Nat.zero_le _, Nat.zero_le _⟩)) (fun r_8 hr_8 => ?_)
        replace hr_8 := hr_8.symm
        subst hr_8
        refine z_icmp_lt (tgt := 72) hx hb dX1_near_65 (by decide) (by omega) (by omega) (fun c_65 => ?_) (fun c_65 => by exfalso; omega)
        refine lv_aload_n hx hb dX1_near_72 rfl (lv_at hl 3 rfl) ?_
        refine va_get (D := D) (ci := 1) (v := .ref s2) (C := RX1) (T := TX1) (N := 9) hx hb hts lk1 hown hK hP 0 rfl rfl 2 (by decide) lk0 (fun _ h9 => h9) rfl dX1_near_73 ?_
        refine lv_iload hx hb dX1_near_76 (lv_at hl 0 rfl) ?_
        refine vp_callSl (va_Run.run (va_runV (As := [.int (nI (b_3 - 1))]) (rest := []) ⟨hx, hb, hml, hown, hts⟩ (c_X0_keyAt l D cI cJ s2 ka va 512 n K V (nI (b_3 - 1)) (by omega) (by omega)) (cwV 1 hts gX1_near_X0_keyAt rfl rfl rfl (by decide +kernel) ⟨Nat.le_of_ble_eq_true rfl, Nat.le_of_ble_eq_true rfl⟩) (z_preV hK hP [1, 2, 3] rfl 0 1 rfl rfl) rfl rfl hl.1 rfl (lv_room (Nat.le_of_ble_eq_true rfl)) dX1_near_78 ⟨Nat.zero_le _, Nat.zero_le _⟩)) (fun r_9 hr_9 => ?_)
        replace hr_9 := hr_9.symm
        subst hr_9
        refine z_topl (y := K (b_3 - 1)) (vAt_N (by omega) (by omega)) ?_
        refine lv_lstore (lv' := [(9, .long (K (b_3 - 1))), (8, .int (nI (b_3 - 1))), (7, .int (nI b_3)), (5, .long (pk a b)), (0, .ref x), (1, .int a), (2, .int b), (3, .int (nI dn)), (4, .int (nI sm))]) hx hb dX1_near_81 hl (by decide) rfl (fun ls hl => ?_)
        refine lv_lload hx hb dX1_near_83 (lv_at hl 0 rfl) ?_
        refine vp_callSi (va_Run.run (va_runS (As := [.long (K (b_3 - 1))]) (rest := []) ⟨hx, hb, hml, hown, hts⟩ (c_X1_firstOf l (K (b_3 - 1))) (va_cwS 1 hts gX1_near_X1_firstOf rfl rfl rfl (by decide +kernel) ⟨Nat.le_of_ble_eq_true rfl, Nat.le_of_ble_eq_true rfl⟩) z_preT rfl rfl hl.1 rfl (lv_room (Nat.le_of_ble_eq_true rfl)) dX1_near_85 ⟨Nat.zero_le _, Nat.zero_le _⟩)) (fun r_10 hr_10 => ?_)
        replace hr_10 := hr_10.symm
        subst hr_10
        refine lv_i2l (v := (fsK (K (b_3 - 1))).toInt64) hx hb dX1_near_88 rfl ?_
        refine lv_ldc2 hx hb hown lk2 dX1_near_89 ?_
        refine lv_lmul hx hb dX1_near_92 ?_
        refine lv_lload hx hb dX1_near_93 (lv_at hl 0 rfl) ?_
        refine vp_callSi (va_Run.run (va_runS (As := [.long (K (b_3 - 1))]) (rest := [.long (((fsK (K (b_3 - 1))).toInt64) * 2147483648)]) ⟨hx, hb, hml, hown, hts⟩ (c_X1_secondOf l (K (b_3 - 1))) (va_cwS 1 hts gX1_near_X1_secondOf rfl rfl rfl (by decide +kernel) ⟨Nat.le_of_ble_eq_true rfl, Nat.le_of_ble_eq_true rfl⟩) z_preT rfl rfl hl.1 rfl (lv_room (Nat.le_of_ble_eq_true rfl)) dX1_near_95 ⟨Nat.zero_le _, Nat.zero_le _⟩)) (fun r_11 hr_11 => ?_)
        replace hr_11 := hr_11.symm
        subst hr_11
        refine lv_i2l (v := (snK (K (b_3 - 1))).toInt64) hx hb dX1_near_98 rfl ?_
        refine lv_ladd hx hb dX1_near_99 ?_
        exact W.lret (v := (((fsK (K (b_3 - 1))).toInt64) * 2147483648) + ((snK (K (b_3 - 1))).toInt64)) hx hb hr (fun t ht hW => ⟨(((fsK (K (b_3 - 1))).toInt64) * 2147483648) + ((snK (K (b_3 - 1))).toInt64), rfl, ⟨b_3, Or.inr ⟨c_10, hb_3⟩, Or.inl ⟨by omega, Or.inr ⟨hz, rfl⟩⟩⟩, ht⟩) (fun _ h => nomatch h) dX1_near_100
  · refine lv_aload_n hx hb dX1_near_13 rfl (lv_at hl 1 rfl) ?_
    refine va_get (D := D) (ci := 1) (v := .ref s2) (C := RX1) (T := TX1) (N := 9) hx hb hts lk1 hown hK hP 0 rfl rfl 2 (by decide) lk0 (fun _ h9 => h9) rfl dX1_near_14 ?_
    refine lv_lload hx hb dX1_near_17 (lv_at hl 0 rfl) ?_
    refine vp_callSi (va_Run.run (va_runV (As := [.long (pk a b)]) (rest := []) ⟨hx, hb, hml, hown, hts⟩ (c_X0_upTo l D cI cJ s2 ka va 512 n K V (pk a b) (by omega) (by omega) (by assumption)) (cwV 1 hts gX1_near_X0_upTo rfl rfl rfl (by decide +kernel) ⟨Nat.le_of_ble_eq_true rfl, Nat.le_of_ble_eq_true rfl⟩) (z_preV hK hP [1, 2, 3] rfl 0 1 rfl rfl) rfl rfl hl.1 rfl (lv_room (Nat.le_of_ble_eq_true rfl)) dX1_near_19 ⟨Nat.zero_le _, Nat.zero_le _⟩)) (fun r_12 hr_12 => ?_)
    obtain ⟨b_13, rfl, hb_13⟩ := hr_12
    have hb_13n := hb_13.1
    refine lv_goto (tgt := 34) hx hb dX1_near_22 (by decide) ?_
    refine lv_istore (lv' := [(7, .int (nI b_13)), (5, .long (pk a b)), (0, .ref x), (1, .int a), (2, .int b), (3, .int (nI dn)), (4, .int (nI sm))]) hx hb dX1_near_34 hl (by decide) rfl (fun ls hl => ?_)
    refine lv_iload_n hx hb dX1_near_36 rfl (lv_at hl 5 rfl) ?_
    refine z_if_eq (tgt := 47) hx hb dX1_near_37 (by decide) (by omega) (fun c_37 => ?_) (fun c_37 => ?_)
    · refine lv_iload hx hb dX1_near_47 (lv_at hl 0 rfl) ?_
      refine lv_istore (lv' := [(8, .int (nI b_13)), (7, .int (nI b_13)), (5, .long (pk a b)), (0, .ref x), (1, .int a), (2, .int b), (3, .int (nI dn)), (4, .int (nI sm))]) hx hb dX1_near_49 hl (by decide) rfl (fun ls hl => ?_)
      refine lv_iload hx hb dX1_near_51 (lv_at hl 0 rfl) ?_
      refine z_if_lt (tgt := 68) hx hb dX1_near_53 (by decide) (by omega) ?_
      refine lv_iload hx hb dX1_near_56 (lv_at hl 0 rfl) ?_
      refine lv_aload_n hx hb dX1_near_58 rfl (lv_at hl 3 rfl) ?_
      refine va_get (D := D) (ci := 1) (v := .ref s2) (C := RX1) (T := TX1) (N := 9) hx hb hts lk1 hown hK hP 0 rfl rfl 2 (by decide) lk0 (fun _ h9 => h9) rfl dX1_near_59 ?_
      refine vp_callSi (va_Run.run (va_runV (As := []) (rest := [.int (nI b_13)]) ⟨hx, hb, hml, hown, hts⟩ (c_X0_held l D cI cJ s2 ka va 512 n K V  ) (cwV 0 hts gX1_near_X0_held rfl rfl rfl (by decide +kernel) ⟨Nat.le_of_ble_eq_true rfl, Nat.le_of_ble_eq_true rfl⟩) (z_preV hK hP [1, 2, 3] rfl 0 1 rfl rfl) rfl rfl hl.1 rfl (lv_room (Nat.le_of_ble_eq_true rfl)) dX1_near_62 ⟨Nat.zero_le _, Nat.zero_le _⟩)) (fun r_14 hr_14 => ?_)
      replace hr_14 := hr_14.symm
      subst hr_14
      refine z_icmp_lt (tgt := 72) hx hb dX1_near_65 (by decide) (by omega) (by omega) (fun c_65 => ?_) (fun c_65 => ?_)
      · refine lv_aload_n hx hb dX1_near_72 rfl (lv_at hl 3 rfl) ?_
        refine va_get (D := D) (ci := 1) (v := .ref s2) (C := RX1) (T := TX1) (N := 9) hx hb hts lk1 hown hK hP 0 rfl rfl 2 (by decide) lk0 (fun _ h9 => h9) rfl dX1_near_73 ?_
        refine lv_iload hx hb dX1_near_76 (lv_at hl 0 rfl) ?_
        refine vp_callSl (va_Run.run (va_runV (As := [.int (nI b_13)]) (rest := []) ⟨hx, hb, hml, hown, hts⟩ (c_X0_keyAt l D cI cJ s2 ka va 512 n K V (nI b_13) (by omega) (by omega)) (cwV 1 hts gX1_near_X0_keyAt rfl rfl rfl (by decide +kernel) ⟨Nat.le_of_ble_eq_true rfl, Nat.le_of_ble_eq_true rfl⟩) (z_preV hK hP [1, 2, 3] rfl 0 1 rfl rfl) rfl rfl hl.1 rfl (lv_room (Nat.le_of_ble_eq_true rfl)) dX1_near_78 ⟨Nat.zero_le _, Nat.zero_le _⟩)) (fun r_15 hr_15 => ?_)
        replace hr_15 := hr_15.symm
        subst hr_15
        refine z_topl (y := K b_13) (vAt_N (by omega) (by omega)) ?_
        refine lv_lstore (lv' := [(9, .long (K b_13)), (8, .int (nI b_13)), (7, .int (nI b_13)), (5, .long (pk a b)), (0, .ref x), (1, .int a), (2, .int b), (3, .int (nI dn)), (4, .int (nI sm))]) hx hb dX1_near_81 hl (by decide) rfl (fun ls hl => ?_)
        refine lv_lload hx hb dX1_near_83 (lv_at hl 0 rfl) ?_
        refine vp_callSi (va_Run.run (va_runS (As := [.long (K b_13)]) (rest := []) ⟨hx, hb, hml, hown, hts⟩ (c_X1_firstOf l (K b_13)) (va_cwS 1 hts gX1_near_X1_firstOf rfl rfl rfl (by decide +kernel) ⟨Nat.le_of_ble_eq_true rfl, Nat.le_of_ble_eq_true rfl⟩) z_preT rfl rfl hl.1 rfl (lv_room (Nat.le_of_ble_eq_true rfl)) dX1_near_85 ⟨Nat.zero_le _, Nat.zero_le _⟩)) (fun r_16 hr_16 => ?_)
        replace hr_16 := hr_16.symm
        subst hr_16
        refine lv_i2l (v := (fsK (K b_13)).toInt64) hx hb dX1_near_88 rfl ?_
        refine lv_ldc2 hx hb hown lk2 dX1_near_89 ?_
        refine lv_lmul hx hb dX1_near_92 ?_
        refine lv_lload hx hb dX1_near_93 (lv_at hl 0 rfl) ?_
        refine vp_callSi (va_Run.run (va_runS (As := [.long (K b_13)]) (rest := [.long (((fsK (K b_13)).toInt64) * 2147483648)]) ⟨hx, hb, hml, hown, hts⟩ (c_X1_secondOf l (K b_13)) (va_cwS 1 hts gX1_near_X1_secondOf rfl rfl rfl (by decide +kernel) ⟨Nat.le_of_ble_eq_true rfl, Nat.le_of_ble_eq_true rfl⟩) z_preT rfl rfl hl.1 rfl (lv_room (Nat.le_of_ble_eq_true rfl)) dX1_near_95 ⟨Nat.zero_le _, Nat.zero_le _⟩)) (fun r_17 hr_17 => ?_)
        replace hr_17 := hr_17.symm
        subst hr_17
        refine lv_i2l (v := (snK (K b_13)).toInt64) hx hb dX1_near_98 rfl ?_
        refine lv_ladd hx hb dX1_near_99 ?_
        exact W.lret (v := (((fsK (K b_13)).toInt64) * 2147483648) + ((snK (K b_13)).toInt64)) hx hb hr (fun t ht hW => ⟨(((fsK (K b_13)).toInt64) * 2147483648) + ((snK (K b_13)).toInt64), rfl, ⟨b_13, Or.inl ⟨c_10, hb_13⟩, Or.inr ⟨c_37, Or.inl ⟨by omega, rfl⟩⟩⟩, ht⟩) (fun _ h => nomatch h) dX1_near_100
      · refine lv_ldc2 hx hb hown lk3 dX1_near_68 ?_
        exact W.lret (v := 4611686018427387904) hx hb hr (fun t ht hW => ⟨4611686018427387904, rfl, ⟨b_13, Or.inl ⟨c_10, hb_13⟩, Or.inr ⟨c_37, Or.inr ⟨by omega, rfl⟩⟩⟩, ht⟩) (fun _ h => nomatch h) dX1_near_71
    · refine lv_iload hx hb dX1_near_40 (lv_at hl 0 rfl) ?_
      refine lv_iconst (v := nI 1) hx hb dX1_near_42 (by decide) ?_
      refine lv_isub hx hb dX1_near_43 ?_
      refine lv_goto (tgt := 49) hx hb dX1_near_44 (by decide) ?_
      rcases Nat.eq_zero_or_pos b_13 with hz | hz
      · refine z_topi (y := (-1)) (by rw [hz]; rfl) ?_
        refine lv_istore (lv' := [(8, .int (-1)), (7, .int (nI b_13)), (5, .long (pk a b)), (0, .ref x), (1, .int a), (2, .int b), (3, .int (nI dn)), (4, .int (nI sm))]) hx hb dX1_near_49 hl (by decide) rfl (fun ls hl => ?_)
        refine lv_iload hx hb dX1_near_51 (lv_at hl 0 rfl) ?_
        refine lv_if_lt (tgt := 68) hx hb dX1_near_53 (by decide) (fun _ => ?_) (fun q => absurd (by decide) q)
        refine lv_ldc2 hx hb hown lk3 dX1_near_68 ?_
        exact W.lret (v := 4611686018427387904) hx hb hr (fun t ht hW => ⟨4611686018427387904, rfl, ⟨b_13, Or.inl ⟨c_10, hb_13⟩, Or.inl ⟨by omega, Or.inl ⟨hz, rfl⟩⟩⟩, ht⟩) (fun _ h => nomatch h) dX1_near_71
      · refine z_topi (y := nI (b_13 - 1)) (pk_sub hz) ?_
        refine lv_istore (lv' := [(8, .int (nI (b_13 - 1))), (7, .int (nI b_13)), (5, .long (pk a b)), (0, .ref x), (1, .int a), (2, .int b), (3, .int (nI dn)), (4, .int (nI sm))]) hx hb dX1_near_49 hl (by decide) rfl (fun ls hl => ?_)
        refine lv_iload hx hb dX1_near_51 (lv_at hl 0 rfl) ?_
        refine z_if_lt (tgt := 68) hx hb dX1_near_53 (by decide) (by omega) ?_
        refine lv_iload hx hb dX1_near_56 (lv_at hl 0 rfl) ?_
        refine lv_aload_n hx hb dX1_near_58 rfl (lv_at hl 3 rfl) ?_
        refine va_get (D := D) (ci := 1) (v := .ref s2) (C := RX1) (T := TX1) (N := 9) hx hb hts lk1 hown hK hP 0 rfl rfl 2 (by decide) lk0 (fun _ h9 => h9) rfl dX1_near_59 ?_
        refine vp_callSi (va_Run.run (va_runV (As := []) (rest := [.int (nI (b_13 - 1))]) ⟨hx, hb, hml, hown, hts⟩ (c_X0_held l D cI cJ s2 ka va 512 n K V  ) (cwV 0 hts gX1_near_X0_held rfl rfl rfl (by decide +kernel) ⟨Nat.le_of_ble_eq_true rfl, Nat.le_of_ble_eq_true rfl⟩) (z_preV hK hP [1, 2, 3] rfl 0 1 rfl rfl) rfl rfl hl.1 rfl (lv_room (Nat.le_of_ble_eq_true rfl)) dX1_near_62 ⟨Nat.zero_le _, Nat.zero_le _⟩)) (fun r_18 hr_18 => ?_)
        replace hr_18 := hr_18.symm
        subst hr_18
        refine z_icmp_lt (tgt := 72) hx hb dX1_near_65 (by decide) (by omega) (by omega) (fun c_65 => ?_) (fun c_65 => by exfalso; omega)
        refine lv_aload_n hx hb dX1_near_72 rfl (lv_at hl 3 rfl) ?_
        refine va_get (D := D) (ci := 1) (v := .ref s2) (C := RX1) (T := TX1) (N := 9) hx hb hts lk1 hown hK hP 0 rfl rfl 2 (by decide) lk0 (fun _ h9 => h9) rfl dX1_near_73 ?_
        refine lv_iload hx hb dX1_near_76 (lv_at hl 0 rfl) ?_
        refine vp_callSl (va_Run.run (va_runV (As := [.int (nI (b_13 - 1))]) (rest := []) ⟨hx, hb, hml, hown, hts⟩ (c_X0_keyAt l D cI cJ s2 ka va 512 n K V (nI (b_13 - 1)) (by omega) (by omega)) (cwV 1 hts gX1_near_X0_keyAt rfl rfl rfl (by decide +kernel) ⟨Nat.le_of_ble_eq_true rfl, Nat.le_of_ble_eq_true rfl⟩) (z_preV hK hP [1, 2, 3] rfl 0 1 rfl rfl) rfl rfl hl.1 rfl (lv_room (Nat.le_of_ble_eq_true rfl)) dX1_near_78 ⟨Nat.zero_le _, Nat.zero_le _⟩)) (fun r_19 hr_19 => ?_)
        replace hr_19 := hr_19.symm
        subst hr_19
        refine z_topl (y := K (b_13 - 1)) (vAt_N (by omega) (by omega)) ?_
        refine lv_lstore (lv' := [(9, .long (K (b_13 - 1))), (8, .int (nI (b_13 - 1))), (7, .int (nI b_13)), (5, .long (pk a b)), (0, .ref x), (1, .int a), (2, .int b), (3, .int (nI dn)), (4, .int (nI sm))]) hx hb dX1_near_81 hl (by decide) rfl (fun ls hl => ?_)
        refine lv_lload hx hb dX1_near_83 (lv_at hl 0 rfl) ?_
        refine vp_callSi (va_Run.run (va_runS (As := [.long (K (b_13 - 1))]) (rest := []) ⟨hx, hb, hml, hown, hts⟩ (c_X1_firstOf l (K (b_13 - 1))) (va_cwS 1 hts gX1_near_X1_firstOf rfl rfl rfl (by decide +kernel) ⟨Nat.le_of_ble_eq_true rfl, Nat.le_of_ble_eq_true rfl⟩) z_preT rfl rfl hl.1 rfl (lv_room (Nat.le_of_ble_eq_true rfl)) dX1_near_85 ⟨Nat.zero_le _, Nat.zero_le _⟩)) (fun r_20 hr_20 => ?_)
        replace hr_20 := hr_20.symm
        subst hr_20
        refine lv_i2l (v := (fsK (K (b_13 - 1))).toInt64) hx hb dX1_near_88 rfl ?_
        refine lv_ldc2 hx hb hown lk2 dX1_near_89 ?_
        refine lv_lmul hx hb dX1_near_92 ?_
        refine lv_lload hx hb dX1_near_93 (lv_at hl 0 rfl) ?_
        refine vp_callSi (va_Run.run (va_runS (As := [.long (K (b_13 - 1))]) (rest := [.long (((fsK (K (b_13 - 1))).toInt64) * 2147483648)]) ⟨hx, hb, hml, hown, hts⟩ (c_X1_secondOf l (K (b_13 - 1))) (va_cwS 1 hts gX1_near_X1_secondOf rfl rfl rfl (by decide +kernel) ⟨Nat.le_of_ble_eq_true rfl, Nat.le_of_ble_eq_true rfl⟩) z_preT rfl rfl hl.1 rfl (lv_room (Nat.le_of_ble_eq_true rfl)) dX1_near_95 ⟨Nat.zero_le _, Nat.zero_le _⟩)) (fun r_21 hr_21 => ?_)
        replace hr_21 := hr_21.symm
        subst hr_21
        refine lv_i2l (v := (snK (K (b_13 - 1))).toInt64) hx hb dX1_near_98 rfl ?_
        refine lv_ladd hx hb dX1_near_99 ?_
        exact W.lret (v := (((fsK (K (b_13 - 1))).toInt64) * 2147483648) + ((snK (K (b_13 - 1))).toInt64)) hx hb hr (fun t ht hW => ⟨(((fsK (K (b_13 - 1))).toInt64) * 2147483648) + ((snK (K (b_13 - 1))).toInt64), rfl, ⟨b_13, Or.inl ⟨c_10, hb_13⟩, Or.inl ⟨by omega, Or.inr ⟨hz, rfl⟩⟩⟩, ht⟩) (fun _ h => nomatch h) dX1_near_100

theorem pl_0 {n la : Nat} {K V : Nat → Int64} {r : Int64} {u : SS} (h : TkR n K V (nI 0) r u) (hl : la = 0) (hn : n < 2 ^ 31) : (n = 0 ∧ r = NO ∧ u = (n, K, V)) ∨ (0 < n ∧ ∃ j, ((la = 0 ∧ j = 0) ∨ (la ≠ 0 ∧ j = n - 1)) ∧ r = V j ∧ u = rmS n K V j) := by
  rcases Nat.eq_zero_or_pos n with q | q
  · exact Or.inl ⟨q, h.out (fun z => z.2 (by rw [q]; decide)) hn⟩
  · exact Or.inr ⟨q, 0, Or.inl ⟨hl, rfl⟩, h.inn q hn⟩

set_option maxHeartbeats 4000000 in
set_option maxRecDepth 100000 in
theorem c_X1_poll (l : Launch) (D : va_G) (cI cJ : ClassId) (x s0 s1 s2 s3 s4 s5 s6 : Nat) (tape turn : Int64) (ka va n : Nat) (K V : Nat → Int64) (hn : n ≤ 512) (la : Nat) (hla : la ≤ 1) (sz : Nat) : Met l yX1_poll wsX1_poll { frames := 3, cells := 0, slots := 0, locals := 71 } (va_Pc [.ref x, .int (nI la)] (wP D cI cJ [(x, .inr (1, [.ref s0, .ref s1, .ref s2, .ref s3, .ref s4, .ref s5, .ref s6, .long tape, .long turn])), (s2, .inr (0, [.ref ka, .ref va, .int (nI n)])), (ka, .inl (cJ, 512, .inr (.inl K))), (va, .inl (cJ, 512, .inr (.inl V)))] sz)) (va_Ql (fun r (u : SS) => (n = 0 ∧ r = NO ∧ u = (n, K, V)) ∨ (0 < n ∧ ∃ j, ((la = 0 ∧ j = 0) ∨ (la ≠ 0 ∧ j = n - 1)) ∧ r = V j ∧ u = rmS n K V j)) (wB D cI cJ (va_A [(x, .inr (1, [.ref s0, .ref s1, .ref s2, .ref s3, .ref s4, .ref s5, .ref s6, .long tape, .long turn])), (s2, .inr (0, [.ref ka, .ref va, .int (nI n)])), (ka, .inl (cJ, 512, .inr (.inl K))), (va, .inl (cJ, 512, .inr (.inl V)))] sz) (fun (n', K', V') => [(x, .inr (1, [.ref s0, .ref s1, .ref s2, .ref s3, .ref s4, .ref s5, .ref s6, .long tape, .long turn])), (s2, .inr (0, [.ref ka, .ref va, .int (nI n')])), (ka, .inl (cJ, 512, .inr (.inl K'))), (va, .inl (cJ, 512, .inr (.inl V')))])) (va_A [(x, .inr (1, [.ref s0, .ref s1, .ref s2, .ref s3, .ref s4, .ref s5, .ref s6, .long tape, .long turn])), (s2, .inr (0, [.ref ka, .ref va, .int (nI n)])), (ka, .inl (cJ, 512, .inr (.inl K))), (va, .inl (cJ, 512, .inr (.inl V)))] sz)) 0 0 (va_A [(x, .inr (1, [.ref s0, .ref s1, .ref s2, .ref s3, .ref s4, .ref s5, .ref s6, .long tape, .long turn])), (s2, .inr (0, [.ref ka, .ref va, .int (nI n)])), (ka, .inl (cJ, 512, .inr (.inl K))), (va, .inl (cJ, 512, .inr (.inl V)))] sz) := by
  refine Met.ofW (cc := cX1_poll) (maxL := 2) (ret := (some .long)) (by decide) rfl ?_
  intro p e s m args below meth c s₁ B hml hv
  obtain ⟨rfl, hsz, hP, hK, hD0⟩ := hv
  have hx := B.exec
  have hb := B.bytes
  have hr := B.returns
  have hts := atoms_spec (ws := wsX1_poll) B.pre
  have hown : s.vm.findClass RX1 = some m.cls := findClass_of_methodNamed B.named
  have hlocks := B.notSynchronized
  have lk0 := hts (.fieldLink RX1 21 "KeyHall" "rising" "LKeyHall$Sorted;") (by decide +kernel)
  have lk1 : ∀ w ∈ wsX10, w ∈ wsX1_poll := by decide +kernel
  subst hsz
  have hD := hD0.self (sz := s.heap.size)
  generalize hAe : va_A [(x, .inr (1, [.ref s0, .ref s1, .ref s2, .ref s3, .ref s4, .ref s5, .ref s6, .long tape, .long turn])), (s2, .inr (0, [.ref ka, .ref va, .int (nI n)])), (ka, .inl (cJ, 512, .inr (.inl K))), (va, .inl (cJ, 512, .inr (.inl V)))] s.heap.size = A at hD ⊢
  have hA : ∀ q : Nat, s.heap.size ≤ q → A q := fun q h => by rw [← hAe]; exact Or.inr h
  have hS : va_S A s.heap s.heap [] := va_S.rf
  have hP : va_P D vwCl [(x, .inr (1, [.ref s0, .ref s1, .ref s2, .ref s3, .ref s4, .ref s5, .ref s6, .long tape, .long turn])), (s2, .inr (0, [.ref ka, .ref va, .int (nI n)])), (ka, .inl (cJ, 512, .inr (.inl K))), (va, .inl (cJ, 512, .inr (.inl V)))] s.heap := hP
  have hl := lv_entry ([.ref x, .int (nI la)]) (n := 2) (Nat.le_of_ble_eq_true rfl)
  rw [lg_entry_eq]
  generalize (lg_sl ([.ref x, .int (nI la)]) ++ List.replicate (2 - (lg_sl ([.ref x, .int (nI la)])).length) Slot.unset).toArray = ls at hl ⊢
  have hl : lv_has ls 2 [(0, .ref x), (1, .int (nI la))] := hl
  refine lv_aload_n hx hb dX1_poll_0 rfl (lv_at hl 0 rfl) ?_
  refine va_get (D := D) (ci := 1) (v := .ref s2) (C := RX1) (T := TX1) (N := 9) hx hb hts lk1 hown hK hP 0 rfl rfl 2 (by decide) lk0 (fun _ h9 => h9) rfl dX1_poll_1 ?_
  refine lv_iload_n hx hb dX1_poll_4 rfl (lv_at hl 1 rfl) ?_
  refine z_if_eq (tgt := 20) hx hb dX1_poll_5 (by decide) (by omega) (fun c_5 => ?_) (fun c_5 => ?_)
  · refine lv_iconst (v := nI 0) hx hb dX1_poll_20 (by decide) ?_
    have hFc := va_free (wc := [(s2, .inr (0, [.ref ka, .ref va, .int (nI n)])), (ka, .inl (cJ, 512, .inr (.inl K))), (va, .inl (cJ, 512, .inr (.inl V)))]) hD hS hA [1, 2, 3] rfl
    refine va_calll (va_runV (As := [.int (nI 0)]) (rest := []) ⟨hx, hb, hml, hown, hts⟩ (c_X0_takeAt l D cI cJ s2 ka va 512 n K V (nI 0) (by omega) (by omega) (by first | exact Or.inl rfl | exact Or.inr ⟨_, by omega, rfl⟩) s.heap.size) (cwV 1 hts gX1_poll_X0_takeAt rfl rfl rfl (by decide +kernel) ⟨Nat.le_of_ble_eq_true rfl, Nat.le_of_ble_eq_true rfl⟩) (z_preVw hK hP hD [1, 2, 3] (by decide) rfl rfl 0 1 rfl rfl) rfl rfl hl.1 rfl (lv_room (Nat.le_of_ble_eq_true rfl)) dX1_poll_21 ⟨Nat.zero_le _, Nat.zero_le _⟩) hS (fun q _ h => hFc q h) hFc (fun r_2 u_1 t H1 locs ht hvm hr_2 hB hzz1 hkk1 hS => ?_)
    obtain ⟨n3, K3, V3⟩ := u_1
    obtain ⟨hP1, hK1, hD1⟩ := hB
    rw [ht] at hP1
    try dsimp only at hr_2
    obtain ⟨hP, hD⟩ := va_join (wr := [(x, .inr (1, [.ref s0, .ref s1, .ref s2, .ref s3, .ref s4, .ref s5, .ref s6, .long tape, .long turn]))]) (w1 := [(s2, .inr (0, [.ref ka, .ref va, .int (nI n3)])), (ka, .inl (cJ, 512, .inr (.inl K3))), (va, .inl (cJ, 512, .inr (.inl V3)))]) hP hD [1, 2, 3] [0] rfl rfl (by decide) (by decide) hkk1 hFc hP1 hD1
    generalize H1 = H at hP hS ⊢
    have hP : va_P D vwCl [(x, .inr (1, [.ref s0, .ref s1, .ref s2, .ref s3, .ref s4, .ref s5, .ref s6, .long tape, .long turn])), (s2, .inr (0, [.ref ka, .ref va, .int (nI n3)])), (ka, .inl (cJ, 512, .inr (.inl K3))), (va, .inl (cJ, 512, .inr (.inl V3)))] H := hP.sub [0, 1, 2, 3] rfl
    have hD : va_D A [(x, .inr (1, [.ref s0, .ref s1, .ref s2, .ref s3, .ref s4, .ref s5, .ref s6, .long tape, .long turn])), (s2, .inr (0, [.ref ka, .ref va, .int (nI n3)])), (ka, .inl (cJ, 512, .inr (.inl K3))), (va, .inl (cJ, 512, .inr (.inl V3)))] := hD.sub [0, 1, 2, 3] (by decide) rfl
    exact W.lret (v := r_2) hx hb hr (fun t ht hW => ⟨⟨r_2, (n3, K3, V3), rfl, pl_0 hr_2 c_5 (by omega), by rw [ht]; exact hP, va_K.moved hW.alike hK, hD⟩, hS.F ht⟩) hS.2.2 dX1_poll_24
  · refine lv_aload_n hx hb dX1_poll_8 rfl (lv_at hl 0 rfl) ?_
    refine va_get (D := D) (ci := 1) (v := .ref s2) (C := RX1) (T := TX1) (N := 9) hx hb hts lk1 hown hK hP 0 rfl rfl 2 (by decide) lk0 (fun _ h9 => h9) rfl dX1_poll_9 ?_
    refine vp_callSi (va_Run.run (va_runV (As := []) (rest := [.ref s2]) ⟨hx, hb, hml, hown, hts⟩ (c_X0_held l D cI cJ s2 ka va 512 n K V  ) (cwV 0 hts gX1_poll_X0_held rfl rfl rfl (by decide +kernel) ⟨Nat.le_of_ble_eq_true rfl, Nat.le_of_ble_eq_true rfl⟩) (z_preV hK hP [1, 2, 3] rfl 0 1 rfl rfl) rfl rfl hl.1 rfl (lv_room (Nat.le_of_ble_eq_true rfl)) dX1_poll_12 ⟨Nat.zero_le _, Nat.zero_le _⟩)) (fun r_4 hr_4 => ?_)
    replace hr_4 := hr_4.symm
    subst hr_4
    refine lv_iconst (v := nI 1) hx hb dX1_poll_15 (by decide) ?_
    refine lv_isub hx hb dX1_poll_16 ?_
    refine lv_goto (tgt := 21) hx hb dX1_poll_17 (by decide) ?_
    rcases Nat.eq_zero_or_pos n with hz | hz
    · refine z_topi (y := (-1)) (by rw [hz]; rfl) ?_
      have hFc := va_free (wc := [(s2, .inr (0, [.ref ka, .ref va, .int (nI n)])), (ka, .inl (cJ, 512, .inr (.inl K))), (va, .inl (cJ, 512, .inr (.inl V)))]) hD hS hA [1, 2, 3] rfl
      refine va_calll (va_runV (As := [.int (-1)]) (rest := []) ⟨hx, hb, hml, hown, hts⟩ (c_X0_takeAt l D cI cJ s2 ka va 512 n K V (-1) (by omega) (by omega) (by first | exact Or.inl rfl | exact Or.inr ⟨_, by omega, rfl⟩) s.heap.size) (cwV 1 hts gX1_poll_X0_takeAt rfl rfl rfl (by decide +kernel) ⟨Nat.le_of_ble_eq_true rfl, Nat.le_of_ble_eq_true rfl⟩) (z_preVw hK hP hD [1, 2, 3] (by decide) rfl rfl 0 1 rfl rfl) rfl rfl hl.1 rfl (lv_room (Nat.le_of_ble_eq_true rfl)) dX1_poll_21 ⟨Nat.zero_le _, Nat.zero_le _⟩) hS (fun q _ h => hFc q h) hFc (fun r_6 u_5 t H1 locs ht hvm hr_6 hB hzz1 hkk1 hS => ?_)
      obtain ⟨n7, K7, V7⟩ := u_5
      obtain ⟨hP1, hK1, hD1⟩ := hB
      rw [ht] at hP1
      try dsimp only at hr_6
      obtain ⟨hP, hD⟩ := va_join (wr := [(x, .inr (1, [.ref s0, .ref s1, .ref s2, .ref s3, .ref s4, .ref s5, .ref s6, .long tape, .long turn]))]) (w1 := [(s2, .inr (0, [.ref ka, .ref va, .int (nI n7)])), (ka, .inl (cJ, 512, .inr (.inl K7))), (va, .inl (cJ, 512, .inr (.inl V7)))]) hP hD [1, 2, 3] [0] rfl rfl (by decide) (by decide) hkk1 hFc hP1 hD1
      generalize H1 = H at hP hS ⊢
      have hP : va_P D vwCl [(x, .inr (1, [.ref s0, .ref s1, .ref s2, .ref s3, .ref s4, .ref s5, .ref s6, .long tape, .long turn])), (s2, .inr (0, [.ref ka, .ref va, .int (nI n7)])), (ka, .inl (cJ, 512, .inr (.inl K7))), (va, .inl (cJ, 512, .inr (.inl V7)))] H := hP.sub [0, 1, 2, 3] rfl
      have hD : va_D A [(x, .inr (1, [.ref s0, .ref s1, .ref s2, .ref s3, .ref s4, .ref s5, .ref s6, .long tape, .long turn])), (s2, .inr (0, [.ref ka, .ref va, .int (nI n7)])), (ka, .inl (cJ, 512, .inr (.inl K7))), (va, .inl (cJ, 512, .inr (.inl V7)))] := hD.sub [0, 1, 2, 3] (by decide) rfl
      exact W.lret (v := r_6) hx hb hr (fun t ht hW => ⟨⟨r_6, (n7, K7, V7), rfl, Or.inl ⟨hz, hr_6.out (m1_out n) (by omega)⟩, by rw [ht]; exact hP, va_K.moved hW.alike hK, hD⟩, hS.F ht⟩) hS.2.2 dX1_poll_24
    · refine z_topi (y := nI (n - 1)) (pk_sub hz) ?_
      have hFc := va_free (wc := [(s2, .inr (0, [.ref ka, .ref va, .int (nI n)])), (ka, .inl (cJ, 512, .inr (.inl K))), (va, .inl (cJ, 512, .inr (.inl V)))]) hD hS hA [1, 2, 3] rfl
      refine va_calll (va_runV (As := [.int (nI (n - 1))]) (rest := []) ⟨hx, hb, hml, hown, hts⟩ (c_X0_takeAt l D cI cJ s2 ka va 512 n K V (nI (n - 1)) (by omega) (by omega) (by first | exact Or.inl rfl | exact Or.inr ⟨_, by omega, rfl⟩) s.heap.size) (cwV 1 hts gX1_poll_X0_takeAt rfl rfl rfl (by decide +kernel) ⟨Nat.le_of_ble_eq_true rfl, Nat.le_of_ble_eq_true rfl⟩) (z_preVw hK hP hD [1, 2, 3] (by decide) rfl rfl 0 1 rfl rfl) rfl rfl hl.1 rfl (lv_room (Nat.le_of_ble_eq_true rfl)) dX1_poll_21 ⟨Nat.zero_le _, Nat.zero_le _⟩) hS (fun q _ h => hFc q h) hFc (fun r_9 u_8 t H1 locs ht hvm hr_9 hB hzz1 hkk1 hS => ?_)
      obtain ⟨n10, K10, V10⟩ := u_8
      obtain ⟨hP1, hK1, hD1⟩ := hB
      rw [ht] at hP1
      try dsimp only at hr_9
      obtain ⟨hP, hD⟩ := va_join (wr := [(x, .inr (1, [.ref s0, .ref s1, .ref s2, .ref s3, .ref s4, .ref s5, .ref s6, .long tape, .long turn]))]) (w1 := [(s2, .inr (0, [.ref ka, .ref va, .int (nI n10)])), (ka, .inl (cJ, 512, .inr (.inl K10))), (va, .inl (cJ, 512, .inr (.inl V10)))]) hP hD [1, 2, 3] [0] rfl rfl (by decide) (by decide) hkk1 hFc hP1 hD1
      generalize H1 = H at hP hS ⊢
      have hP : va_P D vwCl [(x, .inr (1, [.ref s0, .ref s1, .ref s2, .ref s3, .ref s4, .ref s5, .ref s6, .long tape, .long turn])), (s2, .inr (0, [.ref ka, .ref va, .int (nI n10)])), (ka, .inl (cJ, 512, .inr (.inl K10))), (va, .inl (cJ, 512, .inr (.inl V10)))] H := hP.sub [0, 1, 2, 3] rfl
      have hD : va_D A [(x, .inr (1, [.ref s0, .ref s1, .ref s2, .ref s3, .ref s4, .ref s5, .ref s6, .long tape, .long turn])), (s2, .inr (0, [.ref ka, .ref va, .int (nI n10)])), (ka, .inl (cJ, 512, .inr (.inl K10))), (va, .inl (cJ, 512, .inr (.inl V10)))] := hD.sub [0, 1, 2, 3] (by decide) rfl
      exact W.lret (v := r_9) hx hb hr (fun t ht hW => ⟨⟨r_9, (n10, K10, V10), rfl, Or.inr ⟨hz, n - 1, Or.inr ⟨by omega, rfl⟩, hr_9.inn (by omega) (by omega)⟩, by rw [ht]; exact hP, va_K.moved hW.alike hK, hD⟩, hS.F ht⟩) hS.2.2 dX1_poll_24

set_option maxHeartbeats 4000000 in
set_option maxRecDepth 100000 in
theorem c_X1_between (l : Launch) (D : va_G) (cI cJ : ClassId) (x s0 s1 s2 s3 s4 s5 s6 : Nat) (tape turn : Int64) (ka va n : Nat) (K V : Nat → Int64) (hn : n ≤ 512) (hs : Srt n K) (a b c1 d : Int32) : Met l yX1_between wsX1_between { frames := 1, cells := 0, slots := 0, locals := 24 } (va_Pc [.ref x, .int a, .int b, .int c1, .int d] (rP D cI cJ [(x, .inr (1, [.ref s0, .ref s1, .ref s2, .ref s3, .ref s4, .ref s5, .ref s6, .long tape, .long turn])), (s2, .inr (0, [.ref ka, .ref va, .int (nI n)])), (ka, .inl (cJ, 512, .inr (.inl K))), (va, .inl (cJ, 512, .inr (.inl V)))])) (vp_Si (fun r => (pk c1 d < pk a b ∧ r = (-1)) ∨ (¬ pk c1 d < pk a b ∧ ∃ b1 b2, BL n K (pk a b) b1 ∧ BL n K (pk c1 d) b2 ∧ r = nI (b2 - b1)))) 0 0 (fun _ => False) := by
  refine Met.ofW (cc := cX1_between) (maxL := 9) (ret := (some .int)) (by decide) rfl ?_
  intro p e s m args below meth c s₁ B hml hv
  obtain ⟨rfl, hP, hK⟩ := hv
  have hx := B.exec
  have hb := B.bytes
  have hr := B.returns
  have hts := atoms_spec (ws := wsX1_between) B.pre
  have hown : s.vm.findClass RX1 = some m.cls := findClass_of_methodNamed B.named
  have hlocks := B.notSynchronized
  have lk0 := hts (.fieldLink RX1 21 "KeyHall" "rising" "LKeyHall$Sorted;") (by decide +kernel)
  have lk1 : ∀ w ∈ wsX10, w ∈ wsX1_between := by decide +kernel
  have hl := lv_entry ([.ref x, .int a, .int b, .int c1, .int d]) (n := 9) (Nat.le_of_ble_eq_true rfl)
  rw [lg_entry_eq]
  generalize (lg_sl ([.ref x, .int a, .int b, .int c1, .int d]) ++ List.replicate (9 - (lg_sl ([.ref x, .int a, .int b, .int c1, .int d])).length) Slot.unset).toArray = ls at hl ⊢
  have hl : lv_has ls 9 [(0, .ref x), (1, .int a), (2, .int b), (3, .int c1), (4, .int d)] := hl
  refine lv_iload_n hx hb dX1_between_0 rfl (lv_at hl 1 rfl) ?_
  refine lv_iload_n hx hb dX1_between_1 rfl (lv_at hl 2 rfl) ?_
  refine vp_callSl (va_Run.run (va_runS (As := [.int a, .int b]) (rest := []) ⟨hx, hb, hml, hown, hts⟩ (c_X1_pairKey l a b) (va_cwS 2 hts gX1_between_X1_pairKey rfl rfl rfl (by decide +kernel) ⟨Nat.le_of_ble_eq_true rfl, Nat.le_of_ble_eq_true rfl⟩) z_preT rfl rfl hl.1 rfl (lv_room (Nat.le_of_ble_eq_true rfl)) dX1_between_2 ⟨Nat.zero_le _, Nat.zero_le _⟩)) (fun r_1 hr_1 => ?_)
  replace hr_1 := hr_1.symm
  subst hr_1
  refine lv_lstore (lv' := [(5, .long (pk a b)), (0, .ref x), (1, .int a), (2, .int b), (3, .int c1), (4, .int d)]) hx hb dX1_between_5 hl (by decide) rfl (fun ls hl => ?_)
  refine lv_iload_n hx hb dX1_between_7 rfl (lv_at hl 4 rfl) ?_
  refine lv_iload hx hb dX1_between_8 (lv_at hl 5 rfl) ?_
  refine vp_callSl (va_Run.run (va_runS (As := [.int c1, .int d]) (rest := []) ⟨hx, hb, hml, hown, hts⟩ (c_X1_pairKey l c1 d) (va_cwS 2 hts gX1_between_X1_pairKey rfl rfl rfl (by decide +kernel) ⟨Nat.le_of_ble_eq_true rfl, Nat.le_of_ble_eq_true rfl⟩) z_preT rfl rfl hl.1 rfl (lv_room (Nat.le_of_ble_eq_true rfl)) dX1_between_10 ⟨Nat.zero_le _, Nat.zero_le _⟩)) (fun r_2 hr_2 => ?_)
  replace hr_2 := hr_2.symm
  subst hr_2
  refine lv_lstore (lv' := [(7, .long (pk c1 d)), (5, .long (pk a b)), (0, .ref x), (1, .int a), (2, .int b), (3, .int c1), (4, .int d)]) hx hb dX1_between_13 hl (by decide) rfl (fun ls hl => ?_)
  refine lv_lload hx hb dX1_between_15 (lv_at hl 0 rfl) ?_
  refine lv_lload hx hb dX1_between_17 (lv_at hl 1 rfl) ?_
  refine z_lc_ge (tgt := 25) hx hb dX1_between_19 dX1_between_20 (by decide) (fun c_20 => ?_) (fun c_20 => ?_)
  · refine lv_aload_n hx hb dX1_between_25 rfl (lv_at hl 2 rfl) ?_
    refine va_get (D := D) (ci := 1) (v := .ref s2) (C := RX1) (T := TX1) (N := 9) hx hb hts lk1 hown hK hP 0 rfl rfl 2 (by decide) lk0 (fun _ h9 => h9) rfl dX1_between_26 ?_
    refine lv_lload hx hb dX1_between_29 (lv_at hl 0 rfl) ?_
    refine vp_callSi (va_Run.run (va_runV (As := [.long (pk c1 d)]) (rest := []) ⟨hx, hb, hml, hown, hts⟩ (c_X0_below l D cI cJ s2 ka va 512 n K V (pk c1 d) (by omega) (by omega) (by assumption)) (cwV 1 hts gX1_between_X0_below rfl rfl rfl (by decide +kernel) ⟨Nat.le_of_ble_eq_true rfl, Nat.le_of_ble_eq_true rfl⟩) (z_preV hK hP [1, 2, 3] rfl 0 1 rfl rfl) rfl rfl hl.1 rfl (lv_room (Nat.le_of_ble_eq_true rfl)) dX1_between_31 ⟨Nat.zero_le _, Nat.zero_le _⟩)) (fun r_3 hr_3 => ?_)
    obtain ⟨b_4, rfl, hb_4⟩ := hr_3
    have hb_4n := hb_4.1
    refine lv_aload_n hx hb dX1_between_34 rfl (lv_at hl 2 rfl) ?_
    refine va_get (D := D) (ci := 1) (v := .ref s2) (C := RX1) (T := TX1) (N := 9) hx hb hts lk1 hown hK hP 0 rfl rfl 2 (by decide) lk0 (fun _ h9 => h9) rfl dX1_between_35 ?_
    refine lv_lload hx hb dX1_between_38 (lv_at hl 1 rfl) ?_
    refine vp_callSi (va_Run.run (va_runV (As := [.long (pk a b)]) (rest := [.int (nI b_4)]) ⟨hx, hb, hml, hown, hts⟩ (c_X0_below l D cI cJ s2 ka va 512 n K V (pk a b) (by omega) (by omega) (by assumption)) (cwV 1 hts gX1_between_X0_below rfl rfl rfl (by decide +kernel) ⟨Nat.le_of_ble_eq_true rfl, Nat.le_of_ble_eq_true rfl⟩) (z_preV hK hP [1, 2, 3] rfl 0 1 rfl rfl) rfl rfl hl.1 rfl (lv_room (Nat.le_of_ble_eq_true rfl)) dX1_between_40 ⟨Nat.zero_le _, Nat.zero_le _⟩)) (fun r_5 hr_5 => ?_)
    obtain ⟨b_6, rfl, hb_6⟩ := hr_5
    have hb_6n := hb_6.1
    refine z_isub hx hb dX1_between_43 (BL.mono hb_6 hb_4 (Int64.not_lt.mp c_20)) ?_
    exact W.iret (v := nI (b_4 - b_6)) hx hb hr (fun t ht hW => ⟨nI (b_4 - b_6), rfl, Or.inr ⟨c_20, b_6, b_4, hb_6, hb_4, rfl⟩, ht⟩) (fun _ h => nomatch h) dX1_between_44
  · refine lv_iconst (v := (-1)) hx hb dX1_between_23 (by decide) ?_
    exact W.iret (v := (-1)) hx hb hr (fun t ht hW => ⟨(-1), rfl, Or.inl ⟨c_20, rfl⟩, ht⟩) (fun _ h => nomatch h) dX1_between_24

set_option maxHeartbeats 4000000 in
set_option maxRecDepth 100000 in
theorem c_X1_takeTape (l : Launch) (D : va_G) (cI cJ : ClassId) (x s0 s1 s2 s3 s4 s5 s6 : Nat) (tape turn : Int64) (sz : Nat) : Met l yX1_takeTape wsX1_takeTape { frames := 0, cells := 0, slots := 0, locals := 0 } (va_Pc [.ref x] (wP D cI cJ [(x, .inr (1, [.ref s0, .ref s1, .ref s2, .ref s3, .ref s4, .ref s5, .ref s6, .long tape, .long turn]))] sz)) (va_Ql (fun r (u : Unit) => r = tape) (wB D cI cJ (va_A [(x, .inr (1, [.ref s0, .ref s1, .ref s2, .ref s3, .ref s4, .ref s5, .ref s6, .long tape, .long turn]))] sz) (fun _ => [(x, .inr (1, [.ref s0, .ref s1, .ref s2, .ref s3, .ref s4, .ref s5, .ref s6, .long 0, .long turn]))])) (va_A [(x, .inr (1, [.ref s0, .ref s1, .ref s2, .ref s3, .ref s4, .ref s5, .ref s6, .long tape, .long turn]))] sz)) 0 0 (va_A [(x, .inr (1, [.ref s0, .ref s1, .ref s2, .ref s3, .ref s4, .ref s5, .ref s6, .long tape, .long turn]))] sz) := by
  refine Met.ofW (cc := cX1_takeTape) (maxL := 3) (ret := (some .long)) (by decide) rfl ?_
  intro p e s m args below meth c s₁ B hml hv
  obtain ⟨rfl, hsz, hP, hK, hD0⟩ := hv
  have hx := B.exec
  have hb := B.bytes
  have hr := B.returns
  have hts := atoms_spec (ws := wsX1_takeTape) B.pre
  have hown : s.vm.findClass RX1 = some m.cls := findClass_of_methodNamed B.named
  have hlocks := B.notSynchronized
  have lk0 := hts (.fieldLink RX1 36 "KeyHall" "tape" "J") (by decide +kernel)
  have lk1 : ∀ w ∈ wsX10, w ∈ wsX1_takeTape := by decide +kernel
  subst hsz
  have hD := hD0.self (sz := s.heap.size)
  generalize hAe : va_A [(x, .inr (1, [.ref s0, .ref s1, .ref s2, .ref s3, .ref s4, .ref s5, .ref s6, .long tape, .long turn]))] s.heap.size = A at hD ⊢
  have hA : ∀ q : Nat, s.heap.size ≤ q → A q := fun q h => by rw [← hAe]; exact Or.inr h
  have hS : va_S A s.heap s.heap [] := va_S.rf
  have hP : va_P D vwCl [(x, .inr (1, [.ref s0, .ref s1, .ref s2, .ref s3, .ref s4, .ref s5, .ref s6, .long tape, .long turn]))] s.heap := hP
  have hl := lv_entry ([.ref x]) (n := 3) (Nat.le_of_ble_eq_true rfl)
  rw [lg_entry_eq]
  generalize (lg_sl ([.ref x]) ++ List.replicate (3 - (lg_sl ([.ref x])).length) Slot.unset).toArray = ls at hl ⊢
  have hl : lv_has ls 3 [(0, .ref x)] := hl
  refine lv_aload_n hx hb dX1_takeTape_0 rfl (lv_at hl 0 rfl) ?_
  refine va_get (D := D) (ci := 1) (v := .long tape) (C := RX1) (T := TX1) (N := 9) hx hb hts lk1 hown hK hP 0 rfl rfl 7 (by decide) lk0 (fun _ h9 => h9) rfl dX1_takeTape_1 ?_
  refine lv_lstore_n (lv' := [(1, .long tape), (0, .ref x)]) hx hb dX1_takeTape_4 rfl hl (by decide) rfl (fun ls hl => ?_)
  refine lv_aload_n hx hb dX1_takeTape_5 rfl (lv_at hl 1 rfl) ?_
  refine lv_lconst (v := 0) hx hb dX1_takeTape_6 (by decide) ?_
  refine va_put (D := D) (ci := 1) (v := .long 0) (ty := .long) (C := RX1) (T := TX1) (N := 9) hx hb hts lk1 tyX1 tyX1_ok nmX1 hown hK hP hD hS 0 rfl rfl 7 (by decide) lk0 (fun _ h9 => h9) rfl (by decide +kernel) rfl rfl (Nat.le_of_ble_eq_true rfl) dX1_takeTape_7 (fun H locs hP hD hS => ?_)
  have hP : va_P D vwCl [(x, .inr (1, [.ref s0, .ref s1, .ref s2, .ref s3, .ref s4, .ref s5, .ref s6, .long 0, .long turn]))] H := hP
  have hD : va_D A [(x, .inr (1, [.ref s0, .ref s1, .ref s2, .ref s3, .ref s4, .ref s5, .ref s6, .long 0, .long turn]))] := hD
  refine lv_lload_n hx hb dX1_takeTape_10 rfl (lv_at hl 0 rfl) ?_
  exact W.lret (v := tape) hx hb hr (fun t ht hW => ⟨⟨tape, (), rfl, rfl, by rw [ht]; exact hP, va_K.moved hW.alike hK, hD⟩, hS.F ht⟩) hS.2.2 dX1_takeTape_11

set_option maxHeartbeats 4000000 in
set_option maxRecDepth 100000 in
theorem c_X1_sign (l : Launch) (D : va_G) (cI cJ : ClassId) (x s0 s1 s2 s3 s4 s5 s6 : Nat) (tape turn : Int64) (lt : Int32) (sz : Nat) : Met l yX1_sign wsX1_sign { frames := 3, cells := 0, slots := 0, locals := 64 } (va_Pc [.ref x, .int lt] (wP D cI cJ [(x, .inr (1, [.ref s0, .ref s1, .ref s2, .ref s3, .ref s4, .ref s5, .ref s6, .long tape, .long turn]))] sz)) (va_Qi (fun r (u : Int64) => (¬ (nI 97 ≤ lt ∧ lt ≤ nI 122) ∧ r = (-1) ∧ u = tape) ∨ ((nI 97 ≤ lt ∧ lt ≤ nI 122) ∧ ∃ g, SG tape g ∧ ((g = 12 ∧ r = (-3) ∧ u = tape) ∨ (g < 12 ∧ r = nI (g + 1) ∧ u = tape + ((lt - nI 96).toInt64 <<< ((nI (5 * (11 - g))).toInt64 &&& 63)))))) (wB D cI cJ (va_A [(x, .inr (1, [.ref s0, .ref s1, .ref s2, .ref s3, .ref s4, .ref s5, .ref s6, .long tape, .long turn]))] sz) (fun t' => [(x, .inr (1, [.ref s0, .ref s1, .ref s2, .ref s3, .ref s4, .ref s5, .ref s6, .long t', .long turn]))])) (va_A [(x, .inr (1, [.ref s0, .ref s1, .ref s2, .ref s3, .ref s4, .ref s5, .ref s6, .long tape, .long turn]))] sz)) 0 0 (va_A [(x, .inr (1, [.ref s0, .ref s1, .ref s2, .ref s3, .ref s4, .ref s5, .ref s6, .long tape, .long turn]))] sz) := by
  refine Met.ofW (cc := cX1_sign) (maxL := 3) (ret := (some .int)) (by decide) rfl ?_
  intro p e s m args below meth c s₁ B hml hv
  obtain ⟨rfl, hsz, hP, hK, hD0⟩ := hv
  have hx := B.exec
  have hb := B.bytes
  have hr := B.returns
  have hts := atoms_spec (ws := wsX1_sign) B.pre
  have hown : s.vm.findClass RX1 = some m.cls := findClass_of_methodNamed B.named
  have hlocks := B.notSynchronized
  have lk0 := hts (.fieldLink RX1 36 "KeyHall" "tape" "J") (by decide +kernel)
  have lk1 : ∀ w ∈ wsX10, w ∈ wsX1_sign := by decide +kernel
  subst hsz
  have hD := hD0.self (sz := s.heap.size)
  generalize hAe : va_A [(x, .inr (1, [.ref s0, .ref s1, .ref s2, .ref s3, .ref s4, .ref s5, .ref s6, .long tape, .long turn]))] s.heap.size = A at hD ⊢
  have hA : ∀ q : Nat, s.heap.size ≤ q → A q := fun q h => by rw [← hAe]; exact Or.inr h
  have hS : va_S A s.heap s.heap [] := va_S.rf
  have hP : va_P D vwCl [(x, .inr (1, [.ref s0, .ref s1, .ref s2, .ref s3, .ref s4, .ref s5, .ref s6, .long tape, .long turn]))] s.heap := hP
  have hl := lv_entry ([.ref x, .int lt]) (n := 3) (Nat.le_of_ble_eq_true rfl)
  rw [lg_entry_eq]
  generalize (lg_sl ([.ref x, .int lt]) ++ List.replicate (3 - (lg_sl ([.ref x, .int lt])).length) Slot.unset).toArray = ls at hl ⊢
  have hl : lv_has ls 3 [(0, .ref x), (1, .int lt)] := hl
  refine lv_iload_n hx hb dX1_sign_0 rfl (lv_at hl 1 rfl) ?_
  refine lv_bipush (v := nI 97) hx hb dX1_sign_1 (by decide) ?_
  refine lv_icmp_lt (tgt := 12) hx hb dX1_sign_3 (by decide) (fun c_3 => ?_) (fun c_3 => ?_)
  · refine lv_iconst (v := (-1)) hx hb dX1_sign_12 (by decide) ?_
    exact W.iret (v := (-1)) hx hb hr (fun t ht hW => ⟨⟨(-1), tape, rfl, Or.inl ⟨fun q => absurd c_3 (Int32.not_lt.mpr q.1), rfl, rfl⟩, by rw [ht]; exact hP, va_K.moved hW.alike hK, hD⟩, hS.F ht⟩) hS.2.2 dX1_sign_13
  · refine lv_iload_n hx hb dX1_sign_6 rfl (lv_at hl 1 rfl) ?_
    refine lv_bipush (v := nI 122) hx hb dX1_sign_7 (by decide) ?_
    refine lv_icmp_le (tgt := 14) hx hb dX1_sign_9 (by decide) (fun c_9 => ?_) (fun c_9 => ?_)
    · refine lv_aload_n hx hb dX1_sign_14 rfl (lv_at hl 0 rfl) ?_
      refine va_get (D := D) (ci := 1) (v := .long tape) (C := RX1) (T := TX1) (N := 9) hx hb hts lk1 hown hK hP 0 rfl rfl 7 (by decide) lk0 (fun _ h9 => h9) rfl dX1_sign_15 ?_
      refine vp_callSi (va_Run.run (va_runS (As := [.long tape]) (rest := []) ⟨hx, hb, hml, hown, hts⟩ (c_X1_signsOf l tape) (va_cwS 1 hts gX1_sign_X1_signsOf rfl rfl rfl (by decide +kernel) ⟨Nat.le_of_ble_eq_true rfl, Nat.le_of_ble_eq_true rfl⟩) z_preT rfl rfl hl.1 rfl (lv_room (Nat.le_of_ble_eq_true rfl)) dX1_sign_18 ⟨Nat.zero_le _, Nat.zero_le _⟩)) (fun r_1 hr_1 => ?_)
      obtain ⟨g_2, rfl, hg_2⟩ := hr_1
      have hg_2n := hg_2.1
      refine lv_istore_n (lv' := [(2, .int (nI g_2)), (0, .ref x), (1, .int lt)]) hx hb dX1_sign_21 rfl hl (by decide) rfl (fun ls hl => ?_)
      refine lv_iload_n hx hb dX1_sign_22 rfl (lv_at hl 0 rfl) ?_
      refine lv_bipush (v := nI 12) hx hb dX1_sign_23 (by decide) ?_
      refine z_icmp_lt (tgt := 31) hx hb dX1_sign_25 (by decide) (by omega) (by omega) (fun c_25 => ?_) (fun c_25 => ?_)
      · refine lv_aload_n hx hb dX1_sign_31 rfl (lv_at hl 1 rfl) ?_
        refine lv_dup hx hb dX1_sign_32 rfl ?_
        refine va_get (D := D) (ci := 1) (v := .long tape) (C := RX1) (T := TX1) (N := 9) hx hb hts lk1 hown hK hP 0 rfl rfl 7 (by decide) lk0 (fun _ h9 => h9) rfl dX1_sign_33 ?_
        refine lv_iload_n hx hb dX1_sign_36 rfl (lv_at hl 2 rfl) ?_
        refine lv_bipush (v := nI 96) hx hb dX1_sign_37 (by decide) ?_
        refine lv_isub hx hb dX1_sign_39 ?_
        refine lv_i2l (v := (lt - (nI 96)).toInt64) hx hb dX1_sign_40 rfl ?_
        refine lv_iload_n hx hb dX1_sign_41 rfl (lv_at hl 0 rfl) ?_
        refine vp_callSi (va_Run.run (va_runS (As := [.int (nI g_2)]) (rest := [.long ((lt - (nI 96)).toInt64), .long tape, .ref x]) ⟨hx, hb, hml, hown, hts⟩ (c_X1_placeOf l g_2 (by omega)) (va_cwS 1 hts gX1_sign_X1_placeOf rfl rfl rfl (by decide +kernel) ⟨Nat.le_of_ble_eq_true rfl, Nat.le_of_ble_eq_true rfl⟩) z_preT rfl rfl hl.1 rfl (lv_room (Nat.le_of_ble_eq_true rfl)) dX1_sign_42 ⟨Nat.zero_le _, Nat.zero_le _⟩)) (fun r_3 hr_3 => ?_)
        replace hr_3 := hr_3.symm
        subst hr_3
        refine lv_lshl (v := ((lt - (nI 96)).toInt64) <<< ((nI (5 * (11 - g_2))).toInt64 &&& 63)) hx hb dX1_sign_45 rfl ?_
        refine lv_ladd hx hb dX1_sign_46 ?_
        refine va_put (D := D) (ci := 1) (v := .long (tape + (((lt - (nI 96)).toInt64) <<< ((nI (5 * (11 - g_2))).toInt64 &&& 63)))) (ty := .long) (C := RX1) (T := TX1) (N := 9) hx hb hts lk1 tyX1 tyX1_ok nmX1 hown hK hP hD hS 0 rfl rfl 7 (by decide) lk0 (fun _ h9 => h9) rfl (by decide +kernel) rfl rfl (Nat.le_of_ble_eq_true rfl) dX1_sign_47 (fun H locs hP hD hS => ?_)
        have hP : va_P D vwCl [(x, .inr (1, [.ref s0, .ref s1, .ref s2, .ref s3, .ref s4, .ref s5, .ref s6, .long (tape + (((lt - (nI 96)).toInt64) <<< ((nI (5 * (11 - g_2))).toInt64 &&& 63))), .long turn]))] H := hP
        have hD : va_D A [(x, .inr (1, [.ref s0, .ref s1, .ref s2, .ref s3, .ref s4, .ref s5, .ref s6, .long (tape + (((lt - (nI 96)).toInt64) <<< ((nI (5 * (11 - g_2))).toInt64 &&& 63))), .long turn]))] := hD
        refine lv_iload_n hx hb dX1_sign_50 rfl (lv_at hl 0 rfl) ?_
        refine lv_iconst (v := nI 1) hx hb dX1_sign_51 (by decide) ?_
        refine z_iadd hx hb dX1_sign_52 ?_
        exact W.iret (v := nI (g_2 + 1)) hx hb hr (fun t ht hW => ⟨⟨nI (g_2 + 1), tape + (((lt - (nI 96)).toInt64) <<< ((nI (5 * (11 - g_2))).toInt64 &&& 63)), rfl, Or.inr ⟨⟨Int32.not_lt.mp c_3, c_9⟩, g_2, hg_2, Or.inr ⟨c_25, rfl, rfl⟩⟩, by rw [ht]; exact hP, va_K.moved hW.alike hK, hD⟩, hS.F ht⟩) hS.2.2 dX1_sign_53
      · refine lv_bipush (v := (-3)) hx hb dX1_sign_28 (by decide) ?_
        exact W.iret (v := (-3)) hx hb hr (fun t ht hW => ⟨⟨(-3), tape, rfl, Or.inr ⟨⟨Int32.not_lt.mp c_3, c_9⟩, g_2, hg_2, Or.inl ⟨by omega, rfl, rfl⟩⟩, by rw [ht]; exact hP, va_K.moved hW.alike hK, hD⟩, hS.F ht⟩) hS.2.2 dX1_sign_30
    · refine lv_iconst (v := (-1)) hx hb dX1_sign_12 (by decide) ?_
      exact W.iret (v := (-1)) hx hb hr (fun t ht hW => ⟨⟨(-1), tape, rfl, Or.inl ⟨fun q => c_9 q.2, rfl, rfl⟩, by rw [ht]; exact hP, va_K.moved hW.alike hK, hD⟩, hS.F ht⟩) hS.2.2 dX1_sign_13

set_option maxHeartbeats 4000000 in
set_option maxRecDepth 100000 in
theorem c_X1_erase (l : Launch) (D : va_G) (cI cJ : ClassId) (x s0 s1 s2 s3 s4 s5 s6 : Nat) (tape turn : Int64) (sz : Nat) : Met l yX1_erase wsX1_erase { frames := 3, cells := 0, slots := 0, locals := 64 } (va_Pc [.ref x] (wP D cI cJ [(x, .inr (1, [.ref s0, .ref s1, .ref s2, .ref s3, .ref s4, .ref s5, .ref s6, .long tape, .long turn]))] sz)) (va_Qi (fun r (u : Unit) => ∃ g, r = nI g ∧ SG tape g) (wB D cI cJ (va_A [(x, .inr (1, [.ref s0, .ref s1, .ref s2, .ref s3, .ref s4, .ref s5, .ref s6, .long tape, .long turn]))] sz) (fun _ => [(x, .inr (1, [.ref s0, .ref s1, .ref s2, .ref s3, .ref s4, .ref s5, .ref s6, .long 0, .long turn]))])) (va_A [(x, .inr (1, [.ref s0, .ref s1, .ref s2, .ref s3, .ref s4, .ref s5, .ref s6, .long tape, .long turn]))] sz)) 0 0 (va_A [(x, .inr (1, [.ref s0, .ref s1, .ref s2, .ref s3, .ref s4, .ref s5, .ref s6, .long tape, .long turn]))] sz) := by
  refine Met.ofW (cc := cX1_erase) (maxL := 1) (ret := (some .int)) (by decide) rfl ?_
  intro p e s m args below meth c s₁ B hml hv
  obtain ⟨rfl, hsz, hP, hK, hD0⟩ := hv
  have hx := B.exec
  have hb := B.bytes
  have hr := B.returns
  have hts := atoms_spec (ws := wsX1_erase) B.pre
  have hown : s.vm.findClass RX1 = some m.cls := findClass_of_methodNamed B.named
  have hlocks := B.notSynchronized
  subst hsz
  have hD := hD0.self (sz := s.heap.size)
  generalize hAe : va_A [(x, .inr (1, [.ref s0, .ref s1, .ref s2, .ref s3, .ref s4, .ref s5, .ref s6, .long tape, .long turn]))] s.heap.size = A at hD ⊢
  have hA : ∀ q : Nat, s.heap.size ≤ q → A q := fun q h => by rw [← hAe]; exact Or.inr h
  have hS : va_S A s.heap s.heap [] := va_S.rf
  have hP : va_P D vwCl [(x, .inr (1, [.ref s0, .ref s1, .ref s2, .ref s3, .ref s4, .ref s5, .ref s6, .long tape, .long turn]))] s.heap := hP
  have hl := lv_entry ([.ref x]) (n := 1) (Nat.le_of_ble_eq_true rfl)
  rw [lg_entry_eq]
  generalize (lg_sl ([.ref x]) ++ List.replicate (1 - (lg_sl ([.ref x])).length) Slot.unset).toArray = ls at hl ⊢
  have hl : lv_has ls 1 [(0, .ref x)] := hl
  refine lv_aload_n hx hb dX1_erase_0 rfl (lv_at hl 0 rfl) ?_
  have hFc := va_free (wc := [(x, .inr (1, [.ref s0, .ref s1, .ref s2, .ref s3, .ref s4, .ref s5, .ref s6, .long tape, .long turn]))]) hD hS hA [0] rfl
  refine va_calll (va_runV (As := []) (rest := []) ⟨hx, hb, hml, hown, hts⟩ (c_X1_takeTape l D cI cJ x s0 s1 s2 s3 s4 s5 s6 tape turn s.heap.size) (cwV 0 hts gX1_erase_X1_takeTape rfl rfl rfl (by decide +kernel) ⟨Nat.le_of_ble_eq_true rfl, Nat.le_of_ble_eq_true rfl⟩) (z_preVw hK hP hD [0] (by decide) rfl rfl 1 0 rfl rfl) rfl rfl hl.1 rfl (lv_room (Nat.le_of_ble_eq_true rfl)) dX1_erase_1 ⟨Nat.zero_le _, Nat.zero_le _⟩) hS (fun q _ h => hFc q h) hFc (fun r_1 u_2 t H1 locs ht hvm hr_1 hB hzz1 hkk1 hS => ?_)
  obtain ⟨hP1, hK1, hD1⟩ := hB
  rw [ht] at hP1
  try dsimp only at hr_1
  obtain ⟨hP, hD⟩ := va_join (wr := []) (w1 := [(x, .inr (1, [.ref s0, .ref s1, .ref s2, .ref s3, .ref s4, .ref s5, .ref s6, .long 0, .long turn]))]) hP hD [0] [] rfl rfl (by decide) (by decide) hkk1 hFc hP1 hD1
  generalize H1 = H at hP hS ⊢
  have hP : va_P D vwCl [(x, .inr (1, [.ref s0, .ref s1, .ref s2, .ref s3, .ref s4, .ref s5, .ref s6, .long 0, .long turn]))] H := hP.sub [0] rfl
  have hD : va_D A [(x, .inr (1, [.ref s0, .ref s1, .ref s2, .ref s3, .ref s4, .ref s5, .ref s6, .long 0, .long turn]))] := hD.sub [0] (by decide) rfl
  replace hr_1 := hr_1.symm
  subst hr_1
  refine vp_callSi (va_Run.run (va_runS (As := [.long tape]) (rest := []) ⟨hx, hb, hml, hown, hts⟩ (c_X1_signsOf l tape) (va_cwS 1 hts gX1_erase_X1_signsOf rfl rfl rfl (by decide +kernel) ⟨Nat.le_of_ble_eq_true rfl, Nat.le_of_ble_eq_true rfl⟩) z_preT rfl rfl hl.1 rfl (lv_room (Nat.le_of_ble_eq_true rfl)) dX1_erase_4 ⟨Nat.zero_le _, Nat.zero_le _⟩)) (fun r_3 hr_3 => ?_)
  obtain ⟨g_4, rfl, hg_4⟩ := hr_3
  have hg_4n := hg_4.1
  exact W.iret (v := nI g_4) hx hb hr (fun t ht hW => ⟨⟨nI g_4, (), rfl, ⟨g_4, rfl, hg_4⟩, by rw [ht]; exact hP, va_K.moved hW.alike hK, hD⟩, hS.F ht⟩) hS.2.2 dX1_erase_7

set_option maxHeartbeats 4000000 in
set_option maxRecDepth 100000 in
theorem c_X1_line (l : Launch) (D : va_G) (cI cJ : ClassId) (x s0 s1 s2 s3 s4 s5 s6 : Nat) (tape turn : Int64) (ka va n : Nat) (K V : Nat → Int64) (hn : n ≤ 512) (hs : Srt n K) (hn1 : n < 512) (v : Int32) (sz : Nat) : Met l yX1_line wsX1_line { frames := 2, cells := 0, slots := 0, locals := 51 } (va_Pc [.ref x, .int v] (wP D cI cJ [(x, .inr (1, [.ref s0, .ref s1, .ref s2, .ref s3, .ref s4, .ref s5, .ref s6, .long tape, .long turn])), (s3, .inr (0, [.ref ka, .ref va, .int (nI n)])), (ka, .inl (cJ, 512, .inr (.inl K))), (va, .inl (cJ, 512, .inr (.inl V)))] sz)) (va_Qi (fun r (u : SS) => (tape = 0 ∧ r = (-1) ∧ u = (n, K, V)) ∨ (tape ≠ 0 ∧ ∃ b, BU n K tape b ∧ u = (n + 1, inS K n b tape, inS V n b v.toInt64) ∧ ∃ b1 b2, BL (n + 1) (inS K n b tape) tape b1 ∧ BU (n + 1) (inS K n b tape) tape b2 ∧ r = nI (b2 - b1))) (wB D cI cJ (va_A [(x, .inr (1, [.ref s0, .ref s1, .ref s2, .ref s3, .ref s4, .ref s5, .ref s6, .long tape, .long turn])), (s3, .inr (0, [.ref ka, .ref va, .int (nI n)])), (ka, .inl (cJ, 512, .inr (.inl K))), (va, .inl (cJ, 512, .inr (.inl V)))] sz) (fun (n', K', V') => [(x, .inr (1, [.ref s0, .ref s1, .ref s2, .ref s3, .ref s4, .ref s5, .ref s6, .long 0, .long turn])), (s3, .inr (0, [.ref ka, .ref va, .int (nI n')])), (ka, .inl (cJ, 512, .inr (.inl K'))), (va, .inl (cJ, 512, .inr (.inl V')))])) (va_A [(x, .inr (1, [.ref s0, .ref s1, .ref s2, .ref s3, .ref s4, .ref s5, .ref s6, .long tape, .long turn])), (s3, .inr (0, [.ref ka, .ref va, .int (nI n)])), (ka, .inl (cJ, 512, .inr (.inl K))), (va, .inl (cJ, 512, .inr (.inl V)))] sz)) 0 0 (va_A [(x, .inr (1, [.ref s0, .ref s1, .ref s2, .ref s3, .ref s4, .ref s5, .ref s6, .long tape, .long turn])), (s3, .inr (0, [.ref ka, .ref va, .int (nI n)])), (ka, .inl (cJ, 512, .inr (.inl K))), (va, .inl (cJ, 512, .inr (.inl V)))] sz) := by
  refine Met.ofW (cc := cX1_line) (maxL := 4) (ret := (some .int)) (by decide) rfl ?_
  intro p e s m args below meth c s₁ B hml hv
  obtain ⟨rfl, hsz, hP, hK, hD0⟩ := hv
  have hx := B.exec
  have hb := B.bytes
  have hr := B.returns
  have hts := atoms_spec (ws := wsX1_line) B.pre
  have hown : s.vm.findClass RX1 = some m.cls := findClass_of_methodNamed B.named
  have hlocks := B.notSynchronized
  have lk0 := hts (.fieldLink RX1 24 "KeyHall" "lines" "LKeyHall$Sorted;") (by decide +kernel)
  have lk1 : ∀ w ∈ wsX10, w ∈ wsX1_line := by decide +kernel
  subst hsz
  have hD := hD0.self (sz := s.heap.size)
  generalize hAe : va_A [(x, .inr (1, [.ref s0, .ref s1, .ref s2, .ref s3, .ref s4, .ref s5, .ref s6, .long tape, .long turn])), (s3, .inr (0, [.ref ka, .ref va, .int (nI n)])), (ka, .inl (cJ, 512, .inr (.inl K))), (va, .inl (cJ, 512, .inr (.inl V)))] s.heap.size = A at hD ⊢
  have hA : ∀ q : Nat, s.heap.size ≤ q → A q := fun q h => by rw [← hAe]; exact Or.inr h
  have hS : va_S A s.heap s.heap [] := va_S.rf
  have hP : va_P D vwCl [(x, .inr (1, [.ref s0, .ref s1, .ref s2, .ref s3, .ref s4, .ref s5, .ref s6, .long tape, .long turn])), (s3, .inr (0, [.ref ka, .ref va, .int (nI n)])), (ka, .inl (cJ, 512, .inr (.inl K))), (va, .inl (cJ, 512, .inr (.inl V)))] s.heap := hP
  have hl := lv_entry ([.ref x, .int v]) (n := 4) (Nat.le_of_ble_eq_true rfl)
  rw [lg_entry_eq]
  generalize (lg_sl ([.ref x, .int v]) ++ List.replicate (4 - (lg_sl ([.ref x, .int v])).length) Slot.unset).toArray = ls at hl ⊢
  have hl : lv_has ls 4 [(0, .ref x), (1, .int v)] := hl
  refine lv_aload_n hx hb dX1_line_0 rfl (lv_at hl 0 rfl) ?_
  have hFc := va_free (wc := [(x, .inr (1, [.ref s0, .ref s1, .ref s2, .ref s3, .ref s4, .ref s5, .ref s6, .long tape, .long turn]))]) hD hS hA [0] rfl
  refine va_calll (va_runV (As := []) (rest := []) ⟨hx, hb, hml, hown, hts⟩ (c_X1_takeTape l D cI cJ x s0 s1 s2 s3 s4 s5 s6 tape turn s.heap.size) (cwV 0 hts gX1_line_X1_takeTape rfl rfl rfl (by decide +kernel) ⟨Nat.le_of_ble_eq_true rfl, Nat.le_of_ble_eq_true rfl⟩) (z_preVw hK hP hD [0] (by decide) rfl rfl 1 0 rfl rfl) rfl rfl hl.1 rfl (lv_room (Nat.le_of_ble_eq_true rfl)) dX1_line_1 ⟨Nat.zero_le _, Nat.zero_le _⟩) hS (fun q _ h => hFc q h) hFc (fun r_1 u_2 t H1 locs ht hvm hr_1 hB hzz1 hkk1 hS => ?_)
  obtain ⟨hP1, hK1, hD1⟩ := hB
  rw [ht] at hP1
  try dsimp only at hr_1
  obtain ⟨hP, hD⟩ := va_join (wr := [(s3, .inr (0, [.ref ka, .ref va, .int (nI n)])), (ka, .inl (cJ, 512, .inr (.inl K))), (va, .inl (cJ, 512, .inr (.inl V)))]) (w1 := [(x, .inr (1, [.ref s0, .ref s1, .ref s2, .ref s3, .ref s4, .ref s5, .ref s6, .long 0, .long turn]))]) hP hD [0] [1, 2, 3] rfl rfl (by decide) (by decide) hkk1 hFc hP1 hD1
  generalize H1 = H at hP hS ⊢
  have hP : va_P D vwCl [(x, .inr (1, [.ref s0, .ref s1, .ref s2, .ref s3, .ref s4, .ref s5, .ref s6, .long 0, .long turn])), (s3, .inr (0, [.ref ka, .ref va, .int (nI n)])), (ka, .inl (cJ, 512, .inr (.inl K))), (va, .inl (cJ, 512, .inr (.inl V)))] H := hP.sub [3, 0, 1, 2] rfl
  have hD : va_D A [(x, .inr (1, [.ref s0, .ref s1, .ref s2, .ref s3, .ref s4, .ref s5, .ref s6, .long 0, .long turn])), (s3, .inr (0, [.ref ka, .ref va, .int (nI n)])), (ka, .inl (cJ, 512, .inr (.inl K))), (va, .inl (cJ, 512, .inr (.inl V)))] := hD.sub [3, 0, 1, 2] (by decide) rfl
  replace hr_1 := hr_1.symm
  subst hr_1
  refine lv_lstore_n (lv' := [(2, .long tape), (0, .ref x), (1, .int v)]) hx hb dX1_line_4 rfl hl (by decide) rfl (fun ls hl => ?_)
  refine lv_lload_n hx hb dX1_line_5 rfl (lv_at hl 0 rfl) ?_
  refine lv_lconst (v := 0) hx hb dX1_line_6 (by decide) ?_
  refine z_lc_ne (tgt := 13) hx hb dX1_line_7 dX1_line_8 (by decide) (fun c_8 => ?_) (fun c_8 => ?_)
  · refine lv_aload_n hx hb dX1_line_13 rfl (lv_at hl 1 rfl) ?_
    refine va_get (D := D) (ci := 1) (v := .ref s3) (C := RX1) (T := TX1) (N := 9) hx hb hts lk1 hown hK hP 0 rfl rfl 3 (by decide) lk0 (fun _ h9 => h9) rfl dX1_line_14 ?_
    refine lv_aload_n hx hb dX1_line_17 rfl (lv_at hl 1 rfl) ?_
    refine va_get (D := D) (ci := 1) (v := .ref s3) (C := RX1) (T := TX1) (N := 9) hx hb hts lk1 hown hK hP 0 rfl rfl 3 (by decide) lk0 (fun _ h9 => h9) rfl dX1_line_18 ?_
    refine lv_lload_n hx hb dX1_line_21 rfl (lv_at hl 0 rfl) ?_
    refine vp_callSi (va_Run.run (va_runV (As := [.long tape]) (rest := [.ref s3]) ⟨hx, hb, hml, hown, hts⟩ (c_X0_upTo l D cI cJ s3 ka va 512 n K V tape (by omega) (by omega) (by assumption)) (cwV 1 hts gX1_line_X0_upTo rfl rfl rfl (by decide +kernel) ⟨Nat.le_of_ble_eq_true rfl, Nat.le_of_ble_eq_true rfl⟩) (z_preV hK hP [1, 2, 3] rfl 0 1 rfl rfl) rfl rfl hl.1 rfl (lv_room (Nat.le_of_ble_eq_true rfl)) dX1_line_22 ⟨Nat.zero_le _, Nat.zero_le _⟩)) (fun r_3 hr_3 => ?_)
    obtain ⟨b_4, rfl, hb_4⟩ := hr_3
    have hb_4n := hb_4.1
    refine lv_lload_n hx hb dX1_line_25 rfl (lv_at hl 0 rfl) ?_
    refine lv_iload_n hx hb dX1_line_26 rfl (lv_at hl 2 rfl) ?_
    refine lv_i2l (v := v.toInt64) hx hb dX1_line_27 rfl ?_
    have hFc := va_free (wc := [(s3, .inr (0, [.ref ka, .ref va, .int (nI n)])), (ka, .inl (cJ, 512, .inr (.inl K))), (va, .inl (cJ, 512, .inr (.inl V)))]) hD hS hA [1, 2, 3] rfl
    refine va_callv (va_runV (As := [.int (nI b_4), .long tape, .long v.toInt64]) (rest := []) ⟨hx, hb, hml, hown, hts⟩ (c_X0_insert l D cI cJ s3 ka va 512 n K V b_4 tape v.toInt64 (by omega) (by omega) (by omega) (by omega) H.size) (cwV 3 hts gX1_line_X0_insert rfl rfl rfl (by decide +kernel) ⟨Nat.le_of_ble_eq_true rfl, Nat.le_of_ble_eq_true rfl⟩) (z_preVw hK hP hD [1, 2, 3] (by decide) rfl rfl 0 1 rfl rfl) rfl rfl hl.1 rfl (lv_room (Nat.le_of_ble_eq_true rfl)) dX1_line_28 ⟨Nat.zero_le _, Nat.zero_le _⟩) hS (fun q _ h => hFc q h) hFc (fun u_5 t H1 locs ht hvm hr_6 hB hzz1 hkk1 hS => ?_)
    obtain ⟨n7, K7, V7⟩ := u_5
    obtain ⟨hP1, hK1, hD1⟩ := hB
    rw [ht] at hP1
    try dsimp only at hr_6
    obtain ⟨hP, hD⟩ := va_join (wr := [(x, .inr (1, [.ref s0, .ref s1, .ref s2, .ref s3, .ref s4, .ref s5, .ref s6, .long 0, .long turn]))]) (w1 := [(s3, .inr (0, [.ref ka, .ref va, .int (nI n7)])), (ka, .inl (cJ, 512, .inr (.inl K7))), (va, .inl (cJ, 512, .inr (.inl V7)))]) hP hD [1, 2, 3] [0] rfl rfl (by decide) (by decide) hkk1 hFc hP1 hD1
    generalize H1 = H at hP hS ⊢
    have hP : va_P D vwCl [(x, .inr (1, [.ref s0, .ref s1, .ref s2, .ref s3, .ref s4, .ref s5, .ref s6, .long 0, .long turn])), (s3, .inr (0, [.ref ka, .ref va, .int (nI n7)])), (ka, .inl (cJ, 512, .inr (.inl K7))), (va, .inl (cJ, 512, .inr (.inl V7)))] H := hP.sub [0, 1, 2, 3] rfl
    have hD : va_D A [(x, .inr (1, [.ref s0, .ref s1, .ref s2, .ref s3, .ref s4, .ref s5, .ref s6, .long 0, .long turn])), (s3, .inr (0, [.ref ka, .ref va, .int (nI n7)])), (ka, .inl (cJ, 512, .inr (.inl K7))), (va, .inl (cJ, 512, .inr (.inl V7)))] := hD.sub [0, 1, 2, 3] (by decide) rfl
    obtain ⟨rfl, rfl, rfl⟩ : n + 1 = n7 ∧ inS K n b_4 tape = K7 ∧ inS V n b_4 v.toInt64 = V7 := by injection hr_6 with a1 a2; injection a2 with a2 a3; exact ⟨a1.symm, a2.symm, a3.symm⟩
    have hs2 := hs.ins hb_4
    refine lv_aload_n hx hb dX1_line_31 rfl (lv_at hl 1 rfl) ?_
    refine va_get (D := D) (ci := 1) (v := .ref s3) (C := RX1) (T := TX1) (N := 9) hx hb hts lk1 hown hK hP 0 rfl rfl 3 (by decide) lk0 (fun _ h9 => h9) rfl dX1_line_32 ?_
    refine lv_lload_n hx hb dX1_line_35 rfl (lv_at hl 0 rfl) ?_
    refine vp_callSi (va_Run.run (va_runV (As := [.long tape]) (rest := []) ⟨hx, hb, hml, hown, hts⟩ (c_X0_upTo l D cI cJ s3 ka va 512 (n + 1) (inS K n b_4 tape) (inS V n b_4 v.toInt64) tape (by omega) (by omega) (by assumption)) (cwV 1 hts gX1_line_X0_upTo rfl rfl rfl (by decide +kernel) ⟨Nat.le_of_ble_eq_true rfl, Nat.le_of_ble_eq_true rfl⟩) (z_preV hK hP [1, 2, 3] rfl 0 1 rfl rfl) rfl rfl hl.1 rfl (lv_room (Nat.le_of_ble_eq_true rfl)) dX1_line_36 ⟨Nat.zero_le _, Nat.zero_le _⟩)) (fun r_8 hr_8 => ?_)
    obtain ⟨b_9, rfl, hb_9⟩ := hr_8
    have hb_9n := hb_9.1
    refine lv_aload_n hx hb dX1_line_39 rfl (lv_at hl 1 rfl) ?_
    refine va_get (D := D) (ci := 1) (v := .ref s3) (C := RX1) (T := TX1) (N := 9) hx hb hts lk1 hown hK hP 0 rfl rfl 3 (by decide) lk0 (fun _ h9 => h9) rfl dX1_line_40 ?_
    refine lv_lload_n hx hb dX1_line_43 rfl (lv_at hl 0 rfl) ?_
    refine vp_callSi (va_Run.run (va_runV (As := [.long tape]) (rest := [.int (nI b_9)]) ⟨hx, hb, hml, hown, hts⟩ (c_X0_below l D cI cJ s3 ka va 512 (n + 1) (inS K n b_4 tape) (inS V n b_4 v.toInt64) tape (by omega) (by omega) (by assumption)) (cwV 1 hts gX1_line_X0_below rfl rfl rfl (by decide +kernel) ⟨Nat.le_of_ble_eq_true rfl, Nat.le_of_ble_eq_true rfl⟩) (z_preV hK hP [1, 2, 3] rfl 0 1 rfl rfl) rfl rfl hl.1 rfl (lv_room (Nat.le_of_ble_eq_true rfl)) dX1_line_44 ⟨Nat.zero_le _, Nat.zero_le _⟩)) (fun r_10 hr_10 => ?_)
    obtain ⟨b_11, rfl, hb_11⟩ := hr_10
    have hb_11n := hb_11.1
    refine z_isub hx hb dX1_line_47 (hb_11.leBU hb_9) ?_
    exact W.iret (v := nI (b_9 - b_11)) hx hb hr (fun t ht hW => ⟨⟨nI (b_9 - b_11), (n + 1, inS K n b_4 tape, inS V n b_4 v.toInt64), rfl, Or.inr ⟨c_8, b_4, hb_4, rfl, b_11, b_9, hb_11, hb_9, rfl⟩, by rw [ht]; exact hP, va_K.moved hW.alike hK, hD⟩, hS.F ht⟩) hS.2.2 dX1_line_48
  · refine lv_iconst (v := (-1)) hx hb dX1_line_11 (by decide) ?_
    exact W.iret (v := (-1)) hx hb hr (fun t ht hW => ⟨⟨(-1), (n, K, V), rfl, Or.inl ⟨c_8, rfl, rfl⟩, by rw [ht]; exact hP, va_K.moved hW.alike hK, hD⟩, hS.F ht⟩) hS.2.2 dX1_line_12

set_option maxHeartbeats 4000000 in
set_option maxRecDepth 100000 in
theorem c_X1_read (l : Launch) (D : va_G) (cI cJ : ClassId) (x s0 s1 s2 s3 s4 s5 s6 : Nat) (tape turn : Int64) (ka va n : Nat) (K V : Nat → Int64) (hn : n ≤ 512) (hs : Srt n K) (k : Int32) (sz : Nat) : Met l yX1_read wsX1_read { frames := 2, cells := 0, slots := 0, locals := 46 } (va_Pc [.ref x, .int k] (wP D cI cJ [(x, .inr (1, [.ref s0, .ref s1, .ref s2, .ref s3, .ref s4, .ref s5, .ref s6, .long tape, .long turn])), (s3, .inr (0, [.ref ka, .ref va, .int (nI n)])), (ka, .inl (cJ, 512, .inr (.inl K))), (va, .inl (cJ, 512, .inr (.inl V)))] sz)) (va_Ql (fun r (u : Unit) => ∃ b1 b2, BL n K tape b1 ∧ BU n K tape b2 ∧ ((∃ j, k = nI j ∧ j < b2 - b1 ∧ r = V (b1 + j)) ∨ (¬ (¬ k < 0 ∧ ¬ nI (b2 - b1) ≤ k) ∧ r = NO))) (wB D cI cJ (va_A [(x, .inr (1, [.ref s0, .ref s1, .ref s2, .ref s3, .ref s4, .ref s5, .ref s6, .long tape, .long turn])), (s3, .inr (0, [.ref ka, .ref va, .int (nI n)])), (ka, .inl (cJ, 512, .inr (.inl K))), (va, .inl (cJ, 512, .inr (.inl V)))] sz) (fun _ => [(x, .inr (1, [.ref s0, .ref s1, .ref s2, .ref s3, .ref s4, .ref s5, .ref s6, .long 0, .long turn])), (s3, .inr (0, [.ref ka, .ref va, .int (nI n)])), (ka, .inl (cJ, 512, .inr (.inl K))), (va, .inl (cJ, 512, .inr (.inl V)))])) (va_A [(x, .inr (1, [.ref s0, .ref s1, .ref s2, .ref s3, .ref s4, .ref s5, .ref s6, .long tape, .long turn])), (s3, .inr (0, [.ref ka, .ref va, .int (nI n)])), (ka, .inl (cJ, 512, .inr (.inl K))), (va, .inl (cJ, 512, .inr (.inl V)))] sz)) 0 0 (va_A [(x, .inr (1, [.ref s0, .ref s1, .ref s2, .ref s3, .ref s4, .ref s5, .ref s6, .long tape, .long turn])), (s3, .inr (0, [.ref ka, .ref va, .int (nI n)])), (ka, .inl (cJ, 512, .inr (.inl K))), (va, .inl (cJ, 512, .inr (.inl V)))] sz) := by
  refine Met.ofW (cc := cX1_read) (maxL := 6) (ret := (some .long)) (by decide) rfl ?_
  intro p e s m args below meth c s₁ B hml hv
  obtain ⟨rfl, hsz, hP, hK, hD0⟩ := hv
  have hx := B.exec
  have hb := B.bytes
  have hr := B.returns
  have hts := atoms_spec (ws := wsX1_read) B.pre
  have hown : s.vm.findClass RX1 = some m.cls := findClass_of_methodNamed B.named
  have hlocks := B.notSynchronized
  have lk0 := hts (.fieldLink RX1 24 "KeyHall" "lines" "LKeyHall$Sorted;") (by decide +kernel)
  have lk1 : ∀ w ∈ wsX10, w ∈ wsX1_read := by decide +kernel
  have lk2 := hts (.constantLong RX1 94 (4611686018427387904)) (by decide +kernel)
  subst hsz
  have hD := hD0.self (sz := s.heap.size)
  generalize hAe : va_A [(x, .inr (1, [.ref s0, .ref s1, .ref s2, .ref s3, .ref s4, .ref s5, .ref s6, .long tape, .long turn])), (s3, .inr (0, [.ref ka, .ref va, .int (nI n)])), (ka, .inl (cJ, 512, .inr (.inl K))), (va, .inl (cJ, 512, .inr (.inl V)))] s.heap.size = A at hD ⊢
  have hA : ∀ q : Nat, s.heap.size ≤ q → A q := fun q h => by rw [← hAe]; exact Or.inr h
  have hS : va_S A s.heap s.heap [] := va_S.rf
  have hP : va_P D vwCl [(x, .inr (1, [.ref s0, .ref s1, .ref s2, .ref s3, .ref s4, .ref s5, .ref s6, .long tape, .long turn])), (s3, .inr (0, [.ref ka, .ref va, .int (nI n)])), (ka, .inl (cJ, 512, .inr (.inl K))), (va, .inl (cJ, 512, .inr (.inl V)))] s.heap := hP
  have hl := lv_entry ([.ref x, .int k]) (n := 6) (Nat.le_of_ble_eq_true rfl)
  rw [lg_entry_eq]
  generalize (lg_sl ([.ref x, .int k]) ++ List.replicate (6 - (lg_sl ([.ref x, .int k])).length) Slot.unset).toArray = ls at hl ⊢
  have hl : lv_has ls 6 [(0, .ref x), (1, .int k)] := hl
  refine lv_aload_n hx hb dX1_read_0 rfl (lv_at hl 0 rfl) ?_
  have hFc := va_free (wc := [(x, .inr (1, [.ref s0, .ref s1, .ref s2, .ref s3, .ref s4, .ref s5, .ref s6, .long tape, .long turn]))]) hD hS hA [0] rfl
  refine va_calll (va_runV (As := []) (rest := []) ⟨hx, hb, hml, hown, hts⟩ (c_X1_takeTape l D cI cJ x s0 s1 s2 s3 s4 s5 s6 tape turn s.heap.size) (cwV 0 hts gX1_read_X1_takeTape rfl rfl rfl (by decide +kernel) ⟨Nat.le_of_ble_eq_true rfl, Nat.le_of_ble_eq_true rfl⟩) (z_preVw hK hP hD [0] (by decide) rfl rfl 1 0 rfl rfl) rfl rfl hl.1 rfl (lv_room (Nat.le_of_ble_eq_true rfl)) dX1_read_1 ⟨Nat.zero_le _, Nat.zero_le _⟩) hS (fun q _ h => hFc q h) hFc (fun r_1 u_2 t H1 locs ht hvm hr_1 hB hzz1 hkk1 hS => ?_)
  obtain ⟨hP1, hK1, hD1⟩ := hB
  rw [ht] at hP1
  try dsimp only at hr_1
  obtain ⟨hP, hD⟩ := va_join (wr := [(s3, .inr (0, [.ref ka, .ref va, .int (nI n)])), (ka, .inl (cJ, 512, .inr (.inl K))), (va, .inl (cJ, 512, .inr (.inl V)))]) (w1 := [(x, .inr (1, [.ref s0, .ref s1, .ref s2, .ref s3, .ref s4, .ref s5, .ref s6, .long 0, .long turn]))]) hP hD [0] [1, 2, 3] rfl rfl (by decide) (by decide) hkk1 hFc hP1 hD1
  generalize H1 = H at hP hS ⊢
  have hP : va_P D vwCl [(x, .inr (1, [.ref s0, .ref s1, .ref s2, .ref s3, .ref s4, .ref s5, .ref s6, .long 0, .long turn])), (s3, .inr (0, [.ref ka, .ref va, .int (nI n)])), (ka, .inl (cJ, 512, .inr (.inl K))), (va, .inl (cJ, 512, .inr (.inl V)))] H := hP.sub [3, 0, 1, 2] rfl
  have hD : va_D A [(x, .inr (1, [.ref s0, .ref s1, .ref s2, .ref s3, .ref s4, .ref s5, .ref s6, .long 0, .long turn])), (s3, .inr (0, [.ref ka, .ref va, .int (nI n)])), (ka, .inl (cJ, 512, .inr (.inl K))), (va, .inl (cJ, 512, .inr (.inl V)))] := hD.sub [3, 0, 1, 2] (by decide) rfl
  replace hr_1 := hr_1.symm
  subst hr_1
  refine lv_lstore_n (lv' := [(2, .long tape), (0, .ref x), (1, .int k)]) hx hb dX1_read_4 rfl hl (by decide) rfl (fun ls hl => ?_)
  refine lv_aload_n hx hb dX1_read_5 rfl (lv_at hl 1 rfl) ?_
  refine va_get (D := D) (ci := 1) (v := .ref s3) (C := RX1) (T := TX1) (N := 9) hx hb hts lk1 hown hK hP 0 rfl rfl 3 (by decide) lk0 (fun _ h9 => h9) rfl dX1_read_6 ?_
  refine lv_lload_n hx hb dX1_read_9 rfl (lv_at hl 0 rfl) ?_
  refine vp_callSi (va_Run.run (va_runV (As := [.long tape]) (rest := []) ⟨hx, hb, hml, hown, hts⟩ (c_X0_below l D cI cJ s3 ka va 512 n K V tape (by omega) (by omega) (by assumption)) (cwV 1 hts gX1_read_X0_below rfl rfl rfl (by decide +kernel) ⟨Nat.le_of_ble_eq_true rfl, Nat.le_of_ble_eq_true rfl⟩) (z_preV hK hP [1, 2, 3] rfl 0 1 rfl rfl) rfl rfl hl.1 rfl (lv_room (Nat.le_of_ble_eq_true rfl)) dX1_read_10 ⟨Nat.zero_le _, Nat.zero_le _⟩)) (fun r_3 hr_3 => ?_)
  obtain ⟨b_4, rfl, hb_4⟩ := hr_3
  have hb_4n := hb_4.1
  refine lv_istore (lv' := [(4, .int (nI b_4)), (2, .long tape), (0, .ref x), (1, .int k)]) hx hb dX1_read_13 hl (by decide) rfl (fun ls hl => ?_)
  refine lv_aload_n hx hb dX1_read_15 rfl (lv_at hl 2 rfl) ?_
  refine va_get (D := D) (ci := 1) (v := .ref s3) (C := RX1) (T := TX1) (N := 9) hx hb hts lk1 hown hK hP 0 rfl rfl 3 (by decide) lk0 (fun _ h9 => h9) rfl dX1_read_16 ?_
  refine lv_lload_n hx hb dX1_read_19 rfl (lv_at hl 1 rfl) ?_
  refine vp_callSi (va_Run.run (va_runV (As := [.long tape]) (rest := []) ⟨hx, hb, hml, hown, hts⟩ (c_X0_upTo l D cI cJ s3 ka va 512 n K V tape (by omega) (by omega) (by assumption)) (cwV 1 hts gX1_read_X0_upTo rfl rfl rfl (by decide +kernel) ⟨Nat.le_of_ble_eq_true rfl, Nat.le_of_ble_eq_true rfl⟩) (z_preV hK hP [1, 2, 3] rfl 0 1 rfl rfl) rfl rfl hl.1 rfl (lv_room (Nat.le_of_ble_eq_true rfl)) dX1_read_20 ⟨Nat.zero_le _, Nat.zero_le _⟩)) (fun r_5 hr_5 => ?_)
  obtain ⟨b_6, rfl, hb_6⟩ := hr_5
  have hb_6n := hb_6.1
  refine lv_iload hx hb dX1_read_23 (lv_at hl 0 rfl) ?_
  refine z_isub hx hb dX1_read_25 (hb_4.leBU hb_6) ?_
  refine lv_istore (lv' := [(5, .int (nI (b_6 - b_4))), (4, .int (nI b_4)), (2, .long tape), (0, .ref x), (1, .int k)]) hx hb dX1_read_26 hl (by decide) rfl (fun ls hl => ?_)
  refine lv_iload_n hx hb dX1_read_28 rfl (lv_at hl 4 rfl) ?_
  refine lv_if_lt (tgt := 52) hx hb dX1_read_29 (by decide) (fun c_29 => ?_) (fun c_29 => ?_)
  · refine lv_ldc2 hx hb hown lk2 dX1_read_52 ?_
    exact W.lret (v := 4611686018427387904) hx hb hr (fun t ht hW => ⟨⟨4611686018427387904, (), rfl, ⟨b_4, b_6, hb_4, hb_6, Or.inr ⟨fun q => q.1 c_29, rfl⟩⟩, by rw [ht]; exact hP, va_K.moved hW.alike hK, hD⟩, hS.F ht⟩) hS.2.2 dX1_read_55
  · refine lv_iload_n hx hb dX1_read_32 rfl (lv_at hl 4 rfl) ?_
    refine lv_iload hx hb dX1_read_33 (lv_at hl 0 rfl) ?_
    refine lv_icmp_ge (tgt := 52) hx hb dX1_read_35 (by decide) (fun c_35 => ?_) (fun c_35 => ?_)
    · refine lv_ldc2 hx hb hown lk2 dX1_read_52 ?_
      exact W.lret (v := 4611686018427387904) hx hb hr (fun t ht hW => ⟨⟨4611686018427387904, (), rfl, ⟨b_4, b_6, hb_4, hb_6, Or.inr ⟨fun q => q.2 c_35, rfl⟩⟩, by rw [ht]; exact hP, va_K.moved hW.alike hK, hD⟩, hS.F ht⟩) hS.2.2 dX1_read_55
    · obtain ⟨j, hj, rfl⟩ := ix_of c_29 c_35 (by omega)
      refine lv_aload_n hx hb dX1_read_38 rfl (lv_at hl 3 rfl) ?_
      refine va_get (D := D) (ci := 1) (v := .ref s3) (C := RX1) (T := TX1) (N := 9) hx hb hts lk1 hown hK hP 0 rfl rfl 3 (by decide) lk0 (fun _ h9 => h9) rfl dX1_read_39 ?_
      refine lv_iload hx hb dX1_read_42 (lv_at hl 1 rfl) ?_
      refine lv_iload_n hx hb dX1_read_44 rfl (lv_at hl 4 rfl) ?_
      refine z_iadd hx hb dX1_read_45 ?_
      refine vp_callSl (va_Run.run (va_runV (As := [.int (nI (b_4 + j))]) (rest := []) ⟨hx, hb, hml, hown, hts⟩ (c_X0_valueAt l D cI cJ s3 ka va 512 n K V (nI (b_4 + j)) (by omega) (by omega)) (cwV 1 hts gX1_read_X0_valueAt rfl rfl rfl (by decide +kernel) ⟨Nat.le_of_ble_eq_true rfl, Nat.le_of_ble_eq_true rfl⟩) (z_preV hK hP [1, 2, 3] rfl 0 1 rfl rfl) rfl rfl hl.1 rfl (lv_room (Nat.le_of_ble_eq_true rfl)) dX1_read_46 ⟨Nat.zero_le _, Nat.zero_le _⟩)) (fun r_7 hr_7 => ?_)
      replace hr_7 := hr_7.symm
      subst hr_7
      refine z_topl (y := V (b_4 + j)) (vAt_N (by omega) (by omega)) ?_
      refine lv_goto (tgt := 55) hx hb dX1_read_49 (by decide) ?_
      exact W.lret (v := V (b_4 + j)) hx hb hr (fun t ht hW => ⟨⟨V (b_4 + j), (), rfl, ⟨b_4, b_6, hb_4, hb_6, Or.inl ⟨j, rfl, hj, rfl⟩⟩, by rw [ht]; exact hP, va_K.moved hW.alike hK, hD⟩, hS.F ht⟩) hS.2.2 dX1_read_55

set_option maxHeartbeats 4000000 in
set_option maxRecDepth 100000 in
theorem c_X1_next (l : Launch) (D : va_G) (cI cJ : ClassId) (x s0 s1 s2 s3 s4 s5 s6 : Nat) (tape turn : Int64) (ka va n : Nat) (K V : Nat → Int64) (hn : n ≤ 512) (hs : Srt n K) (sz : Nat) : Met l yX1_next wsX1_next { frames := 3, cells := 0, slots := 0, locals := 64 } (va_Pc [.ref x] (wP D cI cJ [(x, .inr (1, [.ref s0, .ref s1, .ref s2, .ref s3, .ref s4, .ref s5, .ref s6, .long tape, .long turn])), (s3, .inr (0, [.ref ka, .ref va, .int (nI n)])), (ka, .inl (cJ, 512, .inr (.inl K))), (va, .inl (cJ, 512, .inr (.inl V)))] sz)) (va_Qi (fun r (u : Int64) => ∃ b, BU n K tape b ∧ ((b < n ∧ u = K b) ∨ (n ≤ b ∧ u = 0)) ∧ ∃ g, SG u g ∧ r = nI g) (wB D cI cJ (va_A [(x, .inr (1, [.ref s0, .ref s1, .ref s2, .ref s3, .ref s4, .ref s5, .ref s6, .long tape, .long turn])), (s3, .inr (0, [.ref ka, .ref va, .int (nI n)])), (ka, .inl (cJ, 512, .inr (.inl K))), (va, .inl (cJ, 512, .inr (.inl V)))] sz) (fun t' => [(x, .inr (1, [.ref s0, .ref s1, .ref s2, .ref s3, .ref s4, .ref s5, .ref s6, .long t', .long turn])), (s3, .inr (0, [.ref ka, .ref va, .int (nI n)])), (ka, .inl (cJ, 512, .inr (.inl K))), (va, .inl (cJ, 512, .inr (.inl V)))])) (va_A [(x, .inr (1, [.ref s0, .ref s1, .ref s2, .ref s3, .ref s4, .ref s5, .ref s6, .long tape, .long turn])), (s3, .inr (0, [.ref ka, .ref va, .int (nI n)])), (ka, .inl (cJ, 512, .inr (.inl K))), (va, .inl (cJ, 512, .inr (.inl V)))] sz)) 0 0 (va_A [(x, .inr (1, [.ref s0, .ref s1, .ref s2, .ref s3, .ref s4, .ref s5, .ref s6, .long tape, .long turn])), (s3, .inr (0, [.ref ka, .ref va, .int (nI n)])), (ka, .inl (cJ, 512, .inr (.inl K))), (va, .inl (cJ, 512, .inr (.inl V)))] sz) := by
  refine Met.ofW (cc := cX1_next) (maxL := 2) (ret := (some .int)) (by decide) rfl ?_
  intro p e s m args below meth c s₁ B hml hv
  obtain ⟨rfl, hsz, hP, hK, hD0⟩ := hv
  have hx := B.exec
  have hb := B.bytes
  have hr := B.returns
  have hts := atoms_spec (ws := wsX1_next) B.pre
  have hown : s.vm.findClass RX1 = some m.cls := findClass_of_methodNamed B.named
  have hlocks := B.notSynchronized
  have lk0 := hts (.fieldLink RX1 24 "KeyHall" "lines" "LKeyHall$Sorted;") (by decide +kernel)
  have lk1 : ∀ w ∈ wsX10, w ∈ wsX1_next := by decide +kernel
  have lk2 := hts (.fieldLink RX1 36 "KeyHall" "tape" "J") (by decide +kernel)
  subst hsz
  have hD := hD0.self (sz := s.heap.size)
  generalize hAe : va_A [(x, .inr (1, [.ref s0, .ref s1, .ref s2, .ref s3, .ref s4, .ref s5, .ref s6, .long tape, .long turn])), (s3, .inr (0, [.ref ka, .ref va, .int (nI n)])), (ka, .inl (cJ, 512, .inr (.inl K))), (va, .inl (cJ, 512, .inr (.inl V)))] s.heap.size = A at hD ⊢
  have hA : ∀ q : Nat, s.heap.size ≤ q → A q := fun q h => by rw [← hAe]; exact Or.inr h
  have hS : va_S A s.heap s.heap [] := va_S.rf
  have hP : va_P D vwCl [(x, .inr (1, [.ref s0, .ref s1, .ref s2, .ref s3, .ref s4, .ref s5, .ref s6, .long tape, .long turn])), (s3, .inr (0, [.ref ka, .ref va, .int (nI n)])), (ka, .inl (cJ, 512, .inr (.inl K))), (va, .inl (cJ, 512, .inr (.inl V)))] s.heap := hP
  have hl := lv_entry ([.ref x]) (n := 2) (Nat.le_of_ble_eq_true rfl)
  rw [lg_entry_eq]
  generalize (lg_sl ([.ref x]) ++ List.replicate (2 - (lg_sl ([.ref x])).length) Slot.unset).toArray = ls at hl ⊢
  have hl : lv_has ls 2 [(0, .ref x)] := hl
  refine lv_aload_n hx hb dX1_next_0 rfl (lv_at hl 0 rfl) ?_
  refine va_get (D := D) (ci := 1) (v := .ref s3) (C := RX1) (T := TX1) (N := 9) hx hb hts lk1 hown hK hP 0 rfl rfl 3 (by decide) lk0 (fun _ h9 => h9) rfl dX1_next_1 ?_
  refine lv_aload_n hx hb dX1_next_4 rfl (lv_at hl 0 rfl) ?_
  refine va_get (D := D) (ci := 1) (v := .long tape) (C := RX1) (T := TX1) (N := 9) hx hb hts lk1 hown hK hP 0 rfl rfl 7 (by decide) lk2 (fun _ h9 => h9) rfl dX1_next_5 ?_
  refine vp_callSi (va_Run.run (va_runV (As := [.long tape]) (rest := []) ⟨hx, hb, hml, hown, hts⟩ (c_X0_upTo l D cI cJ s3 ka va 512 n K V tape (by omega) (by omega) (by assumption)) (cwV 1 hts gX1_next_X0_upTo rfl rfl rfl (by decide +kernel) ⟨Nat.le_of_ble_eq_true rfl, Nat.le_of_ble_eq_true rfl⟩) (z_preV hK hP [1, 2, 3] rfl 0 1 rfl rfl) rfl rfl hl.1 rfl (lv_room (Nat.le_of_ble_eq_true rfl)) dX1_next_8 ⟨Nat.zero_le _, Nat.zero_le _⟩)) (fun r_1 hr_1 => ?_)
  obtain ⟨b_2, rfl, hb_2⟩ := hr_1
  have hb_2n := hb_2.1
  refine lv_istore_n (lv' := [(1, .int (nI b_2)), (0, .ref x)]) hx hb dX1_next_11 rfl hl (by decide) rfl (fun ls hl => ?_)
  refine lv_aload_n hx hb dX1_next_12 rfl (lv_at hl 1 rfl) ?_
  refine lv_iload_n hx hb dX1_next_13 rfl (lv_at hl 0 rfl) ?_
  refine lv_aload_n hx hb dX1_next_14 rfl (lv_at hl 1 rfl) ?_
  refine va_get (D := D) (ci := 1) (v := .ref s3) (C := RX1) (T := TX1) (N := 9) hx hb hts lk1 hown hK hP 0 rfl rfl 3 (by decide) lk0 (fun _ h9 => h9) rfl dX1_next_15 ?_
  refine vp_callSi (va_Run.run (va_runV (As := []) (rest := [.int (nI b_2), .ref x]) ⟨hx, hb, hml, hown, hts⟩ (c_X0_held l D cI cJ s3 ka va 512 n K V  ) (cwV 0 hts gX1_next_X0_held rfl rfl rfl (by decide +kernel) ⟨Nat.le_of_ble_eq_true rfl, Nat.le_of_ble_eq_true rfl⟩) (z_preV hK hP [1, 2, 3] rfl 0 1 rfl rfl) rfl rfl hl.1 rfl (lv_room (Nat.le_of_ble_eq_true rfl)) dX1_next_18 ⟨Nat.zero_le _, Nat.zero_le _⟩)) (fun r_3 hr_3 => ?_)
  replace hr_3 := hr_3.symm
  subst hr_3
  refine z_icmp_ge (tgt := 35) hx hb dX1_next_21 (by decide) (by omega) (by omega) (fun c_21 => ?_) (fun c_21 => ?_)
  · refine lv_lconst (v := 0) hx hb dX1_next_35 (by decide) ?_
    refine va_put (D := D) (ci := 1) (v := .long 0) (ty := .long) (C := RX1) (T := TX1) (N := 9) hx hb hts lk1 tyX1 tyX1_ok nmX1 hown hK hP hD hS 0 rfl rfl 7 (by decide) lk2 (fun _ h9 => h9) rfl (by decide +kernel) rfl rfl (Nat.le_of_ble_eq_true rfl) dX1_next_36 (fun H locs hP hD hS => ?_)
    have hP : va_P D vwCl [(x, .inr (1, [.ref s0, .ref s1, .ref s2, .ref s3, .ref s4, .ref s5, .ref s6, .long 0, .long turn])), (s3, .inr (0, [.ref ka, .ref va, .int (nI n)])), (ka, .inl (cJ, 512, .inr (.inl K))), (va, .inl (cJ, 512, .inr (.inl V)))] H := hP
    have hD : va_D A [(x, .inr (1, [.ref s0, .ref s1, .ref s2, .ref s3, .ref s4, .ref s5, .ref s6, .long 0, .long turn])), (s3, .inr (0, [.ref ka, .ref va, .int (nI n)])), (ka, .inl (cJ, 512, .inr (.inl K))), (va, .inl (cJ, 512, .inr (.inl V)))] := hD
    refine lv_aload_n hx hb dX1_next_39 rfl (lv_at hl 1 rfl) ?_
    refine va_get (D := D) (ci := 1) (v := .long 0) (C := RX1) (T := TX1) (N := 9) hx hb hts lk1 hown hK hP 0 rfl rfl 7 (by decide) lk2 (fun _ h9 => h9) rfl dX1_next_40 ?_
    refine vp_callSi (va_Run.run (va_runS (As := [.long 0]) (rest := []) ⟨hx, hb, hml, hown, hts⟩ (c_X1_signsOf l 0) (va_cwS 1 hts gX1_next_X1_signsOf rfl rfl rfl (by decide +kernel) ⟨Nat.le_of_ble_eq_true rfl, Nat.le_of_ble_eq_true rfl⟩) z_preT rfl rfl hl.1 rfl (lv_room (Nat.le_of_ble_eq_true rfl)) dX1_next_43 ⟨Nat.zero_le _, Nat.zero_le _⟩)) (fun r_4 hr_4 => ?_)
    obtain ⟨g_5, rfl, hg_5⟩ := hr_4
    have hg_5n := hg_5.1
    exact W.iret (v := nI g_5) hx hb hr (fun t ht hW => ⟨⟨nI g_5, 0, rfl, ⟨b_2, hb_2, Or.inr ⟨c_21, rfl⟩, g_5, hg_5, rfl⟩, by rw [ht]; exact hP, va_K.moved hW.alike hK, hD⟩, hS.F ht⟩) hS.2.2 dX1_next_46
  · refine lv_aload_n hx hb dX1_next_24 rfl (lv_at hl 1 rfl) ?_
    refine va_get (D := D) (ci := 1) (v := .ref s3) (C := RX1) (T := TX1) (N := 9) hx hb hts lk1 hown hK hP 0 rfl rfl 3 (by decide) lk0 (fun _ h9 => h9) rfl dX1_next_25 ?_
    refine lv_iload_n hx hb dX1_next_28 rfl (lv_at hl 0 rfl) ?_
    refine vp_callSl (va_Run.run (va_runV (As := [.int (nI b_2)]) (rest := [.ref x]) ⟨hx, hb, hml, hown, hts⟩ (c_X0_keyAt l D cI cJ s3 ka va 512 n K V (nI b_2) (by omega) (by omega)) (cwV 1 hts gX1_next_X0_keyAt rfl rfl rfl (by decide +kernel) ⟨Nat.le_of_ble_eq_true rfl, Nat.le_of_ble_eq_true rfl⟩) (z_preV hK hP [1, 2, 3] rfl 0 1 rfl rfl) rfl rfl hl.1 rfl (lv_room (Nat.le_of_ble_eq_true rfl)) dX1_next_29 ⟨Nat.zero_le _, Nat.zero_le _⟩)) (fun r_6 hr_6 => ?_)
    replace hr_6 := hr_6.symm
    subst hr_6
    refine z_topl (y := K b_2) (vAt_N (by omega) (by omega)) ?_
    refine lv_goto (tgt := 36) hx hb dX1_next_32 (by decide) ?_
    refine va_put (D := D) (ci := 1) (v := .long (K b_2)) (ty := .long) (C := RX1) (T := TX1) (N := 9) hx hb hts lk1 tyX1 tyX1_ok nmX1 hown hK hP hD hS 0 rfl rfl 7 (by decide) lk2 (fun _ h9 => h9) rfl (by decide +kernel) rfl rfl (Nat.le_of_ble_eq_true rfl) dX1_next_36 (fun H locs hP hD hS => ?_)
    have hP : va_P D vwCl [(x, .inr (1, [.ref s0, .ref s1, .ref s2, .ref s3, .ref s4, .ref s5, .ref s6, .long (K b_2), .long turn])), (s3, .inr (0, [.ref ka, .ref va, .int (nI n)])), (ka, .inl (cJ, 512, .inr (.inl K))), (va, .inl (cJ, 512, .inr (.inl V)))] H := hP
    have hD : va_D A [(x, .inr (1, [.ref s0, .ref s1, .ref s2, .ref s3, .ref s4, .ref s5, .ref s6, .long (K b_2), .long turn])), (s3, .inr (0, [.ref ka, .ref va, .int (nI n)])), (ka, .inl (cJ, 512, .inr (.inl K))), (va, .inl (cJ, 512, .inr (.inl V)))] := hD
    refine lv_aload_n hx hb dX1_next_39 rfl (lv_at hl 1 rfl) ?_
    refine va_get (D := D) (ci := 1) (v := .long (K b_2)) (C := RX1) (T := TX1) (N := 9) hx hb hts lk1 hown hK hP 0 rfl rfl 7 (by decide) lk2 (fun _ h9 => h9) rfl dX1_next_40 ?_
    refine vp_callSi (va_Run.run (va_runS (As := [.long (K b_2)]) (rest := []) ⟨hx, hb, hml, hown, hts⟩ (c_X1_signsOf l (K b_2)) (va_cwS 1 hts gX1_next_X1_signsOf rfl rfl rfl (by decide +kernel) ⟨Nat.le_of_ble_eq_true rfl, Nat.le_of_ble_eq_true rfl⟩) z_preT rfl rfl hl.1 rfl (lv_room (Nat.le_of_ble_eq_true rfl)) dX1_next_43 ⟨Nat.zero_le _, Nat.zero_le _⟩)) (fun r_7 hr_7 => ?_)
    obtain ⟨g_8, rfl, hg_8⟩ := hr_7
    have hg_8n := hg_8.1
    exact W.iret (v := nI g_8) hx hb hr (fun t ht hW => ⟨⟨nI g_8, K b_2, rfl, ⟨b_2, hb_2, Or.inl ⟨c_21, rfl⟩, g_8, hg_8, rfl⟩, by rw [ht]; exact hP, va_K.moved hW.alike hK, hD⟩, hS.F ht⟩) hS.2.2 dX1_next_46

set_option maxHeartbeats 4000000 in
set_option maxRecDepth 100000 in
theorem c_X1_letter (l : Launch) (D : va_G) (cI cJ : ClassId) (x s0 s1 s2 s3 s4 s5 s6 : Nat) (tape turn : Int64) (k : Int32) : Met l yX1_letter wsX1_letter { frames := 3, cells := 0, slots := 0, locals := 64 } (va_Pc [.ref x, .int k] (rP D cI cJ [(x, .inr (1, [.ref s0, .ref s1, .ref s2, .ref s3, .ref s4, .ref s5, .ref s6, .long tape, .long turn]))])) (vp_Si (fun r => (k < 0 ∧ r = (-1)) ∨ ∃ g, SG tape g ∧ ((∃ j, k = nI j ∧ j < g ∧ r = nI 96 + sgA tape j) ∨ (¬ (¬ k < 0 ∧ ¬ nI g ≤ k) ∧ r = (-1))))) 0 0 (fun _ => False) := by
  refine Met.ofW (cc := cX1_letter) (maxL := 2) (ret := (some .int)) (by decide) rfl ?_
  intro p e s m args below meth c s₁ B hml hv
  obtain ⟨rfl, hP, hK⟩ := hv
  have hx := B.exec
  have hb := B.bytes
  have hr := B.returns
  have hts := atoms_spec (ws := wsX1_letter) B.pre
  have hown : s.vm.findClass RX1 = some m.cls := findClass_of_methodNamed B.named
  have hlocks := B.notSynchronized
  have lk0 := hts (.fieldLink RX1 36 "KeyHall" "tape" "J") (by decide +kernel)
  have lk1 : ∀ w ∈ wsX10, w ∈ wsX1_letter := by decide +kernel
  have hl := lv_entry ([.ref x, .int k]) (n := 2) (Nat.le_of_ble_eq_true rfl)
  rw [lg_entry_eq]
  generalize (lg_sl ([.ref x, .int k]) ++ List.replicate (2 - (lg_sl ([.ref x, .int k])).length) Slot.unset).toArray = ls at hl ⊢
  have hl : lv_has ls 2 [(0, .ref x), (1, .int k)] := hl
  refine lv_iload_n hx hb dX1_letter_0 rfl (lv_at hl 1 rfl) ?_
  refine lv_if_lt (tgt := 15) hx hb dX1_letter_1 (by decide) (fun c_1 => ?_) (fun c_1 => ?_)
  · refine lv_iconst (v := (-1)) hx hb dX1_letter_15 (by decide) ?_
    exact W.iret (v := (-1)) hx hb hr (fun t ht hW => ⟨(-1), rfl, Or.inl ⟨c_1, rfl⟩, ht⟩) (fun _ h => nomatch h) dX1_letter_16
  · refine lv_iload_n hx hb dX1_letter_4 rfl (lv_at hl 1 rfl) ?_
    refine lv_aload_n hx hb dX1_letter_5 rfl (lv_at hl 0 rfl) ?_
    refine va_get (D := D) (ci := 1) (v := .long tape) (C := RX1) (T := TX1) (N := 9) hx hb hts lk1 hown hK hP 0 rfl rfl 7 (by decide) lk0 (fun _ h9 => h9) rfl dX1_letter_6 ?_
    refine vp_callSi (va_Run.run (va_runS (As := [.long tape]) (rest := [.int k]) ⟨hx, hb, hml, hown, hts⟩ (c_X1_signsOf l tape) (va_cwS 1 hts gX1_letter_X1_signsOf rfl rfl rfl (by decide +kernel) ⟨Nat.le_of_ble_eq_true rfl, Nat.le_of_ble_eq_true rfl⟩) z_preT rfl rfl hl.1 rfl (lv_room (Nat.le_of_ble_eq_true rfl)) dX1_letter_9 ⟨Nat.zero_le _, Nat.zero_le _⟩)) (fun r_1 hr_1 => ?_)
    obtain ⟨g_2, rfl, hg_2⟩ := hr_1
    have hg_2n := hg_2.1
    refine lv_icmp_lt (tgt := 17) hx hb dX1_letter_12 (by decide) (fun c_12 => ?_) (fun c_12 => ?_)
    · obtain ⟨j, hj, rfl⟩ := ix_of c_1 (Int32.not_le.mpr c_12) (by omega)
      refine lv_bipush (v := nI 96) hx hb dX1_letter_17 (by decide) ?_
      refine lv_aload_n hx hb dX1_letter_19 rfl (lv_at hl 0 rfl) ?_
      refine va_get (D := D) (ci := 1) (v := .long tape) (C := RX1) (T := TX1) (N := 9) hx hb hts lk1 hown hK hP 0 rfl rfl 7 (by decide) lk0 (fun _ h9 => h9) rfl dX1_letter_20 ?_
      refine lv_iload_n hx hb dX1_letter_23 rfl (lv_at hl 1 rfl) ?_
      refine vp_callSi (va_Run.run (va_runS (As := [.long tape, .int (nI j)]) (rest := [.int (nI 96)]) ⟨hx, hb, hml, hown, hts⟩ (c_X1_signAt l tape j (by omega)) (va_cwS 2 hts gX1_letter_X1_signAt rfl rfl rfl (by decide +kernel) ⟨Nat.le_of_ble_eq_true rfl, Nat.le_of_ble_eq_true rfl⟩) z_preT rfl rfl hl.1 rfl (lv_room (Nat.le_of_ble_eq_true rfl)) dX1_letter_24 ⟨Nat.zero_le _, Nat.zero_le _⟩)) (fun r_3 hr_3 => ?_)
      replace hr_3 := hr_3.symm
      subst hr_3
      refine lv_iadd hx hb dX1_letter_27 ?_
      exact W.iret (v := (nI 96) + (sgA tape j)) hx hb hr (fun t ht hW => ⟨(nI 96) + (sgA tape j), rfl, Or.inr ⟨g_2, hg_2, Or.inl ⟨j, rfl, hj, rfl⟩⟩, ht⟩) (fun _ h => nomatch h) dX1_letter_28
    · refine lv_iconst (v := (-1)) hx hb dX1_letter_15 (by decide) ?_
      exact W.iret (v := (-1)) hx hb hr (fun t ht hW => ⟨(-1), rfl, Or.inr ⟨g_2, hg_2, Or.inr ⟨fun q => q.2 (Int32.not_lt.mp c_12), rfl⟩⟩, ht⟩) (fun _ h => nomatch h) dX1_letter_16

set_option maxHeartbeats 4000000 in
set_option maxRecDepth 100000 in
theorem c_X1_forget (l : Launch) (D : va_G) (cI cJ : ClassId) (x s0 s1 s2 s3 s4 s5 s6 : Nat) (tape turn : Int64) (ka va n : Nat) (K V : Nat → Int64) (hn : n ≤ 512) (hs : Srt n K) (sz : Nat) : Met l yX1_forget wsX1_forget { frames := 2, cells := 0, slots := 0, locals := 48 } (va_Pc [.ref x] (wP D cI cJ [(x, .inr (1, [.ref s0, .ref s1, .ref s2, .ref s3, .ref s4, .ref s5, .ref s6, .long tape, .long turn])), (s3, .inr (0, [.ref ka, .ref va, .int (nI n)])), (ka, .inl (cJ, 512, .inr (.inl K))), (va, .inl (cJ, 512, .inr (.inl V)))] sz)) (va_Qi (fun r (u : SS) => ∃ b1 b2, BL n K tape b1 ∧ BU n K tape b2 ∧ ((b2 ≤ b1 ∧ r = (-1) ∧ u = (n, K, V)) ∨ (b1 < b2 ∧ r = nI (b2 - b1) ∧ u = (n - (b2 - b1), va_cpy K K b2 b1 (n - b2), va_cpy V V b2 b1 (n - b2))))) (wB D cI cJ (va_A [(x, .inr (1, [.ref s0, .ref s1, .ref s2, .ref s3, .ref s4, .ref s5, .ref s6, .long tape, .long turn])), (s3, .inr (0, [.ref ka, .ref va, .int (nI n)])), (ka, .inl (cJ, 512, .inr (.inl K))), (va, .inl (cJ, 512, .inr (.inl V)))] sz) (fun (n', K', V') => [(x, .inr (1, [.ref s0, .ref s1, .ref s2, .ref s3, .ref s4, .ref s5, .ref s6, .long 0, .long turn])), (s3, .inr (0, [.ref ka, .ref va, .int (nI n')])), (ka, .inl (cJ, 512, .inr (.inl K'))), (va, .inl (cJ, 512, .inr (.inl V')))])) (va_A [(x, .inr (1, [.ref s0, .ref s1, .ref s2, .ref s3, .ref s4, .ref s5, .ref s6, .long tape, .long turn])), (s3, .inr (0, [.ref ka, .ref va, .int (nI n)])), (ka, .inl (cJ, 512, .inr (.inl K))), (va, .inl (cJ, 512, .inr (.inl V)))] sz)) 0 0 (va_A [(x, .inr (1, [.ref s0, .ref s1, .ref s2, .ref s3, .ref s4, .ref s5, .ref s6, .long tape, .long turn])), (s3, .inr (0, [.ref ka, .ref va, .int (nI n)])), (ka, .inl (cJ, 512, .inr (.inl K))), (va, .inl (cJ, 512, .inr (.inl V)))] sz) := by
  refine Met.ofW (cc := cX1_forget) (maxL := 5) (ret := (some .int)) (by decide) rfl ?_
  intro p e s m args below meth c s₁ B hml hv
  obtain ⟨rfl, hsz, hP, hK, hD0⟩ := hv
  have hx := B.exec
  have hb := B.bytes
  have hr := B.returns
  have hts := atoms_spec (ws := wsX1_forget) B.pre
  have hown : s.vm.findClass RX1 = some m.cls := findClass_of_methodNamed B.named
  have hlocks := B.notSynchronized
  have lk0 := hts (.fieldLink RX1 24 "KeyHall" "lines" "LKeyHall$Sorted;") (by decide +kernel)
  have lk1 : ∀ w ∈ wsX10, w ∈ wsX1_forget := by decide +kernel
  subst hsz
  have hD := hD0.self (sz := s.heap.size)
  generalize hAe : va_A [(x, .inr (1, [.ref s0, .ref s1, .ref s2, .ref s3, .ref s4, .ref s5, .ref s6, .long tape, .long turn])), (s3, .inr (0, [.ref ka, .ref va, .int (nI n)])), (ka, .inl (cJ, 512, .inr (.inl K))), (va, .inl (cJ, 512, .inr (.inl V)))] s.heap.size = A at hD ⊢
  have hA : ∀ q : Nat, s.heap.size ≤ q → A q := fun q h => by rw [← hAe]; exact Or.inr h
  have hS : va_S A s.heap s.heap [] := va_S.rf
  have hP : va_P D vwCl [(x, .inr (1, [.ref s0, .ref s1, .ref s2, .ref s3, .ref s4, .ref s5, .ref s6, .long tape, .long turn])), (s3, .inr (0, [.ref ka, .ref va, .int (nI n)])), (ka, .inl (cJ, 512, .inr (.inl K))), (va, .inl (cJ, 512, .inr (.inl V)))] s.heap := hP
  have hl := lv_entry ([.ref x]) (n := 5) (Nat.le_of_ble_eq_true rfl)
  rw [lg_entry_eq]
  generalize (lg_sl ([.ref x]) ++ List.replicate (5 - (lg_sl ([.ref x])).length) Slot.unset).toArray = ls at hl ⊢
  have hl : lv_has ls 5 [(0, .ref x)] := hl
  refine lv_aload_n hx hb dX1_forget_0 rfl (lv_at hl 0 rfl) ?_
  have hFc := va_free (wc := [(x, .inr (1, [.ref s0, .ref s1, .ref s2, .ref s3, .ref s4, .ref s5, .ref s6, .long tape, .long turn]))]) hD hS hA [0] rfl
  refine va_calll (va_runV (As := []) (rest := []) ⟨hx, hb, hml, hown, hts⟩ (c_X1_takeTape l D cI cJ x s0 s1 s2 s3 s4 s5 s6 tape turn s.heap.size) (cwV 0 hts gX1_forget_X1_takeTape rfl rfl rfl (by decide +kernel) ⟨Nat.le_of_ble_eq_true rfl, Nat.le_of_ble_eq_true rfl⟩) (z_preVw hK hP hD [0] (by decide) rfl rfl 1 0 rfl rfl) rfl rfl hl.1 rfl (lv_room (Nat.le_of_ble_eq_true rfl)) dX1_forget_1 ⟨Nat.zero_le _, Nat.zero_le _⟩) hS (fun q _ h => hFc q h) hFc (fun r_1 u_2 t H1 locs ht hvm hr_1 hB hzz1 hkk1 hS => ?_)
  obtain ⟨hP1, hK1, hD1⟩ := hB
  rw [ht] at hP1
  try dsimp only at hr_1
  obtain ⟨hP, hD⟩ := va_join (wr := [(s3, .inr (0, [.ref ka, .ref va, .int (nI n)])), (ka, .inl (cJ, 512, .inr (.inl K))), (va, .inl (cJ, 512, .inr (.inl V)))]) (w1 := [(x, .inr (1, [.ref s0, .ref s1, .ref s2, .ref s3, .ref s4, .ref s5, .ref s6, .long 0, .long turn]))]) hP hD [0] [1, 2, 3] rfl rfl (by decide) (by decide) hkk1 hFc hP1 hD1
  generalize H1 = H at hP hS ⊢
  have hP : va_P D vwCl [(x, .inr (1, [.ref s0, .ref s1, .ref s2, .ref s3, .ref s4, .ref s5, .ref s6, .long 0, .long turn])), (s3, .inr (0, [.ref ka, .ref va, .int (nI n)])), (ka, .inl (cJ, 512, .inr (.inl K))), (va, .inl (cJ, 512, .inr (.inl V)))] H := hP.sub [3, 0, 1, 2] rfl
  have hD : va_D A [(x, .inr (1, [.ref s0, .ref s1, .ref s2, .ref s3, .ref s4, .ref s5, .ref s6, .long 0, .long turn])), (s3, .inr (0, [.ref ka, .ref va, .int (nI n)])), (ka, .inl (cJ, 512, .inr (.inl K))), (va, .inl (cJ, 512, .inr (.inl V)))] := hD.sub [3, 0, 1, 2] (by decide) rfl
  replace hr_1 := hr_1.symm
  subst hr_1
  refine lv_lstore_n (lv' := [(1, .long tape), (0, .ref x)]) hx hb dX1_forget_4 rfl hl (by decide) rfl (fun ls hl => ?_)
  refine lv_aload_n hx hb dX1_forget_5 rfl (lv_at hl 1 rfl) ?_
  refine va_get (D := D) (ci := 1) (v := .ref s3) (C := RX1) (T := TX1) (N := 9) hx hb hts lk1 hown hK hP 0 rfl rfl 3 (by decide) lk0 (fun _ h9 => h9) rfl dX1_forget_6 ?_
  refine lv_lload_n hx hb dX1_forget_9 rfl (lv_at hl 0 rfl) ?_
  refine vp_callSi (va_Run.run (va_runV (As := [.long tape]) (rest := []) ⟨hx, hb, hml, hown, hts⟩ (c_X0_below l D cI cJ s3 ka va 512 n K V tape (by omega) (by omega) (by assumption)) (cwV 1 hts gX1_forget_X0_below rfl rfl rfl (by decide +kernel) ⟨Nat.le_of_ble_eq_true rfl, Nat.le_of_ble_eq_true rfl⟩) (z_preV hK hP [1, 2, 3] rfl 0 1 rfl rfl) rfl rfl hl.1 rfl (lv_room (Nat.le_of_ble_eq_true rfl)) dX1_forget_10 ⟨Nat.zero_le _, Nat.zero_le _⟩)) (fun r_3 hr_3 => ?_)
  obtain ⟨b_4, rfl, hb_4⟩ := hr_3
  have hb_4n := hb_4.1
  refine lv_istore_n (lv' := [(3, .int (nI b_4)), (1, .long tape), (0, .ref x)]) hx hb dX1_forget_13 rfl hl (by decide) rfl (fun ls hl => ?_)
  refine lv_aload_n hx hb dX1_forget_14 rfl (lv_at hl 2 rfl) ?_
  refine va_get (D := D) (ci := 1) (v := .ref s3) (C := RX1) (T := TX1) (N := 9) hx hb hts lk1 hown hK hP 0 rfl rfl 3 (by decide) lk0 (fun _ h9 => h9) rfl dX1_forget_15 ?_
  refine lv_lload_n hx hb dX1_forget_18 rfl (lv_at hl 1 rfl) ?_
  refine vp_callSi (va_Run.run (va_runV (As := [.long tape]) (rest := []) ⟨hx, hb, hml, hown, hts⟩ (c_X0_upTo l D cI cJ s3 ka va 512 n K V tape (by omega) (by omega) (by assumption)) (cwV 1 hts gX1_forget_X0_upTo rfl rfl rfl (by decide +kernel) ⟨Nat.le_of_ble_eq_true rfl, Nat.le_of_ble_eq_true rfl⟩) (z_preV hK hP [1, 2, 3] rfl 0 1 rfl rfl) rfl rfl hl.1 rfl (lv_room (Nat.le_of_ble_eq_true rfl)) dX1_forget_19 ⟨Nat.zero_le _, Nat.zero_le _⟩)) (fun r_5 hr_5 => ?_)
  obtain ⟨b_6, rfl, hb_6⟩ := hr_5
  have hb_6n := hb_6.1
  refine lv_istore (lv' := [(4, .int (nI b_6)), (3, .int (nI b_4)), (1, .long tape), (0, .ref x)]) hx hb dX1_forget_22 hl (by decide) rfl (fun ls hl => ?_)
  refine lv_iload_n hx hb dX1_forget_24 rfl (lv_at hl 1 rfl) ?_
  refine lv_iload hx hb dX1_forget_25 (lv_at hl 0 rfl) ?_
  refine z_icmp_lt (tgt := 32) hx hb dX1_forget_27 (by decide) (by omega) (by omega) (fun c_27 => ?_) (fun c_27 => ?_)
  · refine lv_aload_n hx hb dX1_forget_32 rfl (lv_at hl 3 rfl) ?_
    refine va_get (D := D) (ci := 1) (v := .ref s3) (C := RX1) (T := TX1) (N := 9) hx hb hts lk1 hown hK hP 0 rfl rfl 3 (by decide) lk0 (fun _ h9 => h9) rfl dX1_forget_33 ?_
    refine lv_iload_n hx hb dX1_forget_36 rfl (lv_at hl 1 rfl) ?_
    refine lv_iload hx hb dX1_forget_37 (lv_at hl 0 rfl) ?_
    have hFc := va_free (wc := [(s3, .inr (0, [.ref ka, .ref va, .int (nI n)])), (ka, .inl (cJ, 512, .inr (.inl K))), (va, .inl (cJ, 512, .inr (.inl V)))]) hD hS hA [1, 2, 3] rfl
    refine va_callv (va_runV (As := [.int (nI b_4), .int (nI b_6)]) (rest := []) ⟨hx, hb, hml, hown, hts⟩ (c_X0_takeOut l D cI cJ s3 ka va 512 n K V (nI b_4) (nI b_6) (by omega) (by omega) H.size) (cwV 2 hts gX1_forget_X0_takeOut rfl rfl rfl (by decide +kernel) ⟨Nat.le_of_ble_eq_true rfl, Nat.le_of_ble_eq_true rfl⟩) (z_preVw hK hP hD [1, 2, 3] (by decide) rfl rfl 0 1 rfl rfl) rfl rfl hl.1 rfl (lv_room (Nat.le_of_ble_eq_true rfl)) dX1_forget_39 ⟨Nat.zero_le _, Nat.zero_le _⟩) hS (fun q _ h => hFc q h) hFc (fun u_7 t H1 locs ht hvm hr_8 hB hzz1 hkk1 hS => ?_)
    obtain ⟨n9, K9, V9⟩ := u_7
    obtain ⟨hP1, hK1, hD1⟩ := hB
    rw [ht] at hP1
    try dsimp only at hr_8
    obtain ⟨hP, hD⟩ := va_join (wr := [(x, .inr (1, [.ref s0, .ref s1, .ref s2, .ref s3, .ref s4, .ref s5, .ref s6, .long 0, .long turn]))]) (w1 := [(s3, .inr (0, [.ref ka, .ref va, .int (nI n9)])), (ka, .inl (cJ, 512, .inr (.inl K9))), (va, .inl (cJ, 512, .inr (.inl V9)))]) hP hD [1, 2, 3] [0] rfl rfl (by decide) (by decide) hkk1 hFc hP1 hD1
    generalize H1 = H at hP hS ⊢
    have hP : va_P D vwCl [(x, .inr (1, [.ref s0, .ref s1, .ref s2, .ref s3, .ref s4, .ref s5, .ref s6, .long 0, .long turn])), (s3, .inr (0, [.ref ka, .ref va, .int (nI n9)])), (ka, .inl (cJ, 512, .inr (.inl K9))), (va, .inl (cJ, 512, .inr (.inl V9)))] H := hP.sub [0, 1, 2, 3] rfl
    have hD : va_D A [(x, .inr (1, [.ref s0, .ref s1, .ref s2, .ref s3, .ref s4, .ref s5, .ref s6, .long 0, .long turn])), (s3, .inr (0, [.ref ka, .ref va, .int (nI n9)])), (ka, .inl (cJ, 512, .inr (.inl K9))), (va, .inl (cJ, 512, .inr (.inl V9)))] := hD.sub [0, 1, 2, 3] (by decide) rfl
    refine lv_iload hx hb dX1_forget_42 (lv_at hl 0 rfl) ?_
    refine lv_iload_n hx hb dX1_forget_44 rfl (lv_at hl 1 rfl) ?_
    refine z_isub hx hb dX1_forget_45 (by omega) ?_
    exact W.iret (v := nI (b_6 - b_4)) hx hb hr (fun t ht hW => ⟨⟨nI (b_6 - b_4), (n9, K9, V9), rfl, ⟨b_4, b_6, hb_4, hb_6, Or.inr ⟨c_27, rfl, hr_8.inn c_27 (by omega) (by omega)⟩⟩, by rw [ht]; exact hP, va_K.moved hW.alike hK, hD⟩, hS.F ht⟩) hS.2.2 dX1_forget_46
  · refine lv_iconst (v := (-1)) hx hb dX1_forget_30 (by decide) ?_
    exact W.iret (v := (-1)) hx hb hr (fun t ht hW => ⟨⟨(-1), (n, K, V), rfl, ⟨b_4, b_6, hb_4, hb_6, Or.inl ⟨c_27, rfl, rfl⟩⟩, by rw [ht]; exact hP, va_K.moved hW.alike hK, hD⟩, hS.F ht⟩) hS.2.2 dX1_forget_31

set_option maxHeartbeats 4000000 in
set_option maxRecDepth 100000 in
theorem c_X1_mark (l : Launch) (D : va_G) (cI cJ : ClassId) (x s0 s1 s2 s3 s4 s5 s6 : Nat) (tape turn : Int64) (ka va n : Nat) (K V : Nat → Int64) (hn : n ≤ 752) (hs : Srt n K) (hn1 : n < 752) (a b : Int32) (sz : Nat) : Met l yX1_mark wsX1_mark { frames := 3, cells := 0, slots := 0, locals := 78 } (va_Pc [.ref x, .int a, .int b] (wP D cI cJ [(x, .inr (1, [.ref s0, .ref s1, .ref s2, .ref s3, .ref s4, .ref s5, .ref s6, .long tape, .long turn])), (s5, .inr (0, [.ref ka, .ref va, .int (nI n)])), (ka, .inl (cJ, 752, .inr (.inl K))), (va, .inl (cJ, 752, .inr (.inl V)))] sz)) (va_Qi (fun r (u : SS) => r = nI u.1 ∧ ((∃ j, j < n ∧ K j = pk a b ∧ u = rmS n K V j) ∨ ((∀ j, j < n → K j ≠ pk a b) ∧ ∃ r0, StR n K V (pk a b) 0 r0 u))) (wB D cI cJ (va_A [(x, .inr (1, [.ref s0, .ref s1, .ref s2, .ref s3, .ref s4, .ref s5, .ref s6, .long tape, .long turn])), (s5, .inr (0, [.ref ka, .ref va, .int (nI n)])), (ka, .inl (cJ, 752, .inr (.inl K))), (va, .inl (cJ, 752, .inr (.inl V)))] sz) (fun (n', K', V') => [(x, .inr (1, [.ref s0, .ref s1, .ref s2, .ref s3, .ref s4, .ref s5, .ref s6, .long tape, .long turn])), (s5, .inr (0, [.ref ka, .ref va, .int (nI n')])), (ka, .inl (cJ, 752, .inr (.inl K'))), (va, .inl (cJ, 752, .inr (.inl V')))])) (va_A [(x, .inr (1, [.ref s0, .ref s1, .ref s2, .ref s3, .ref s4, .ref s5, .ref s6, .long tape, .long turn])), (s5, .inr (0, [.ref ka, .ref va, .int (nI n)])), (ka, .inl (cJ, 752, .inr (.inl K))), (va, .inl (cJ, 752, .inr (.inl V)))] sz)) 0 0 (va_A [(x, .inr (1, [.ref s0, .ref s1, .ref s2, .ref s3, .ref s4, .ref s5, .ref s6, .long tape, .long turn])), (s5, .inr (0, [.ref ka, .ref va, .int (nI n)])), (ka, .inl (cJ, 752, .inr (.inl K))), (va, .inl (cJ, 752, .inr (.inl V)))] sz) := by
  refine Met.ofW (cc := cX1_mark) (maxL := 6) (ret := (some .int)) (by decide) rfl ?_
  intro p e s m args below meth c s₁ B hml hv
  obtain ⟨rfl, hsz, hP, hK, hD0⟩ := hv
  have hx := B.exec
  have hb := B.bytes
  have hr := B.returns
  have hts := atoms_spec (ws := wsX1_mark) B.pre
  have hown : s.vm.findClass RX1 = some m.cls := findClass_of_methodNamed B.named
  have hlocks := B.notSynchronized
  have lk0 := hts (.fieldLink RX1 30 "KeyHall" "points" "LKeyHall$Sorted;") (by decide +kernel)
  have lk1 : ∀ w ∈ wsX10, w ∈ wsX1_mark := by decide +kernel
  subst hsz
  have hD := hD0.self (sz := s.heap.size)
  generalize hAe : va_A [(x, .inr (1, [.ref s0, .ref s1, .ref s2, .ref s3, .ref s4, .ref s5, .ref s6, .long tape, .long turn])), (s5, .inr (0, [.ref ka, .ref va, .int (nI n)])), (ka, .inl (cJ, 752, .inr (.inl K))), (va, .inl (cJ, 752, .inr (.inl V)))] s.heap.size = A at hD ⊢
  have hA : ∀ q : Nat, s.heap.size ≤ q → A q := fun q h => by rw [← hAe]; exact Or.inr h
  have hS : va_S A s.heap s.heap [] := va_S.rf
  have hP : va_P D vwCl [(x, .inr (1, [.ref s0, .ref s1, .ref s2, .ref s3, .ref s4, .ref s5, .ref s6, .long tape, .long turn])), (s5, .inr (0, [.ref ka, .ref va, .int (nI n)])), (ka, .inl (cJ, 752, .inr (.inl K))), (va, .inl (cJ, 752, .inr (.inl V)))] s.heap := hP
  have hl := lv_entry ([.ref x, .int a, .int b]) (n := 6) (Nat.le_of_ble_eq_true rfl)
  rw [lg_entry_eq]
  generalize (lg_sl ([.ref x, .int a, .int b]) ++ List.replicate (6 - (lg_sl ([.ref x, .int a, .int b])).length) Slot.unset).toArray = ls at hl ⊢
  have hl : lv_has ls 6 [(0, .ref x), (1, .int a), (2, .int b)] := hl
  refine lv_iload_n hx hb dX1_mark_0 rfl (lv_at hl 1 rfl) ?_
  refine lv_iload_n hx hb dX1_mark_1 rfl (lv_at hl 2 rfl) ?_
  refine vp_callSl (va_Run.run (va_runS (As := [.int a, .int b]) (rest := []) ⟨hx, hb, hml, hown, hts⟩ (c_X1_pairKey l a b) (va_cwS 2 hts gX1_mark_X1_pairKey rfl rfl rfl (by decide +kernel) ⟨Nat.le_of_ble_eq_true rfl, Nat.le_of_ble_eq_true rfl⟩) z_preT rfl rfl hl.1 rfl (lv_room (Nat.le_of_ble_eq_true rfl)) dX1_mark_2 ⟨Nat.zero_le _, Nat.zero_le _⟩)) (fun r_1 hr_1 => ?_)
  replace hr_1 := hr_1.symm
  subst hr_1
  refine lv_lstore_n (lv' := [(3, .long (pk a b)), (0, .ref x), (1, .int a), (2, .int b)]) hx hb dX1_mark_5 rfl hl (by decide) rfl (fun ls hl => ?_)
  refine lv_aload_n hx hb dX1_mark_6 rfl (lv_at hl 1 rfl) ?_
  refine va_get (D := D) (ci := 1) (v := .ref s5) (C := RX1) (T := TX1) (N := 9) hx hb hts lk1 hown hK hP 0 rfl rfl 5 (by decide) lk0 (fun _ h9 => h9) rfl dX1_mark_7 ?_
  refine lv_lload_n hx hb dX1_mark_10 rfl (lv_at hl 0 rfl) ?_
  refine vp_callSi (va_Run.run (va_runV (As := [.long (pk a b)]) (rest := []) ⟨hx, hb, hml, hown, hts⟩ (c_X0_find l D cI cJ s5 ka va 752 n K V (pk a b) (by omega) (by omega) (by assumption)) (cwV 1 hts gX1_mark_X0_find rfl rfl rfl (by decide +kernel) ⟨Nat.le_of_ble_eq_true rfl, Nat.le_of_ble_eq_true rfl⟩) (z_preV hK hP [1, 2, 3] rfl 0 1 rfl rfl) rfl rfl hl.1 rfl (lv_room (Nat.le_of_ble_eq_true rfl)) dX1_mark_11 ⟨Nat.zero_le _, Nat.zero_le _⟩)) (fun r_2 hr_2 => ?_)
  rcases hr_2 with ⟨j_3, hj, hje, rfl⟩ | ⟨hnf, rfl⟩
  · have hj31 : j_3 < 2 ^ 31 := by omega
    refine lv_istore (lv' := [(5, .int (nI j_3)), (3, .long (pk a b)), (0, .ref x), (1, .int a), (2, .int b)]) hx hb dX1_mark_14 hl (by decide) rfl (fun ls hl => ?_)
    refine lv_iload hx hb dX1_mark_16 (lv_at hl 0 rfl) ?_
    refine z_if_ge (tgt := 34) hx hb dX1_mark_18 (by decide) (by omega) ?_
    refine lv_aload_n hx hb dX1_mark_34 rfl (lv_at hl 2 rfl) ?_
    refine va_get (D := D) (ci := 1) (v := .ref s5) (C := RX1) (T := TX1) (N := 9) hx hb hts lk1 hown hK hP 0 rfl rfl 5 (by decide) lk0 (fun _ h9 => h9) rfl dX1_mark_35 ?_
    refine lv_iload hx hb dX1_mark_38 (lv_at hl 0 rfl) ?_
    have hFc := va_free (wc := [(s5, .inr (0, [.ref ka, .ref va, .int (nI n)])), (ka, .inl (cJ, 752, .inr (.inl K))), (va, .inl (cJ, 752, .inr (.inl V)))]) hD hS hA [1, 2, 3] rfl
    refine va_calll (va_runV (As := [.int (nI j_3)]) (rest := []) ⟨hx, hb, hml, hown, hts⟩ (c_X0_takeAt l D cI cJ s5 ka va 752 n K V (nI j_3) (by omega) (by omega) (by first | exact Or.inl rfl | exact Or.inr ⟨_, by omega, rfl⟩) s.heap.size) (cwV 1 hts gX1_mark_X0_takeAt rfl rfl rfl (by decide +kernel) ⟨Nat.le_of_ble_eq_true rfl, Nat.le_of_ble_eq_true rfl⟩) (z_preVw hK hP hD [1, 2, 3] (by decide) rfl rfl 0 1 rfl rfl) rfl rfl hl.1 rfl (lv_room (Nat.le_of_ble_eq_true rfl)) dX1_mark_40 ⟨Nat.zero_le _, Nat.zero_le _⟩) hS (fun q _ h => hFc q h) hFc (fun r_5 u_4 t H1 locs ht hvm hr_5 hB hzz1 hkk1 hS => ?_)
    obtain ⟨n6, K6, V6⟩ := u_4
    obtain ⟨hP1, hK1, hD1⟩ := hB
    rw [ht] at hP1
    try dsimp only at hr_5
    obtain ⟨hP, hD⟩ := va_join (wr := [(x, .inr (1, [.ref s0, .ref s1, .ref s2, .ref s3, .ref s4, .ref s5, .ref s6, .long tape, .long turn]))]) (w1 := [(s5, .inr (0, [.ref ka, .ref va, .int (nI n6)])), (ka, .inl (cJ, 752, .inr (.inl K6))), (va, .inl (cJ, 752, .inr (.inl V6)))]) hP hD [1, 2, 3] [0] rfl rfl (by decide) (by decide) hkk1 hFc hP1 hD1
    generalize H1 = H at hP hS ⊢
    have hP : va_P D vwCl [(x, .inr (1, [.ref s0, .ref s1, .ref s2, .ref s3, .ref s4, .ref s5, .ref s6, .long tape, .long turn])), (s5, .inr (0, [.ref ka, .ref va, .int (nI n6)])), (ka, .inl (cJ, 752, .inr (.inl K6))), (va, .inl (cJ, 752, .inr (.inl V6)))] H := hP.sub [0, 1, 2, 3] rfl
    have hD : va_D A [(x, .inr (1, [.ref s0, .ref s1, .ref s2, .ref s3, .ref s4, .ref s5, .ref s6, .long tape, .long turn])), (s5, .inr (0, [.ref ka, .ref va, .int (nI n6)])), (ka, .inl (cJ, 752, .inr (.inl K6))), (va, .inl (cJ, 752, .inr (.inl V6)))] := hD.sub [0, 1, 2, 3] (by decide) rfl
    refine lv_pop2_2 hx hb dX1_mark_43 rfl ?_
    refine lv_aload_n hx hb dX1_mark_44 rfl (lv_at hl 2 rfl) ?_
    refine va_get (D := D) (ci := 1) (v := .ref s5) (C := RX1) (T := TX1) (N := 9) hx hb hts lk1 hown hK hP 0 rfl rfl 5 (by decide) lk0 (fun _ h9 => h9) rfl dX1_mark_45 ?_
    refine vp_callSi (va_Run.run (va_runV (As := []) (rest := []) ⟨hx, hb, hml, hown, hts⟩ (c_X0_held l D cI cJ s5 ka va 752 n6 K6 V6  ) (cwV 0 hts gX1_mark_X0_held rfl rfl rfl (by decide +kernel) ⟨Nat.le_of_ble_eq_true rfl, Nat.le_of_ble_eq_true rfl⟩) (z_preV hK hP [1, 2, 3] rfl 0 1 rfl rfl) rfl rfl hl.1 rfl (lv_room (Nat.le_of_ble_eq_true rfl)) dX1_mark_48 ⟨Nat.zero_le _, Nat.zero_le _⟩)) (fun r_7 hr_7 => ?_)
    replace hr_7 := hr_7.symm
    subst hr_7
    exact W.iret (v := nI n6) hx hb hr (fun t ht hW => ⟨⟨nI n6, (n6, K6, V6), rfl, ⟨rfl, Or.inl ⟨j_3, hj, hje, (hr_5.inn hj (by omega)).2⟩⟩, by rw [ht]; exact hP, va_K.moved hW.alike hK, hD⟩, hS.F ht⟩) hS.2.2 dX1_mark_51
  · refine lv_istore (lv' := [(5, .int (-1)), (3, .long (pk a b)), (0, .ref x), (1, .int a), (2, .int b)]) hx hb dX1_mark_14 hl (by decide) rfl (fun ls hl => ?_)
    refine lv_iload hx hb dX1_mark_16 (lv_at hl 0 rfl) ?_
    refine lv_if_ge (tgt := 34) hx hb dX1_mark_18 (by decide) (fun q => absurd q (by decide)) (fun _ => ?_)
    refine lv_aload_n hx hb dX1_mark_21 rfl (lv_at hl 2 rfl) ?_
    refine va_get (D := D) (ci := 1) (v := .ref s5) (C := RX1) (T := TX1) (N := 9) hx hb hts lk1 hown hK hP 0 rfl rfl 5 (by decide) lk0 (fun _ h9 => h9) rfl dX1_mark_22 ?_
    refine lv_lload_n hx hb dX1_mark_25 rfl (lv_at hl 1 rfl) ?_
    refine lv_lconst (v := 0) hx hb dX1_mark_26 (by decide) ?_
    have hFc := va_free (wc := [(s5, .inr (0, [.ref ka, .ref va, .int (nI n)])), (ka, .inl (cJ, 752, .inr (.inl K))), (va, .inl (cJ, 752, .inr (.inl V)))]) hD hS hA [1, 2, 3] rfl
    refine va_calll (va_runV (As := [.long (pk a b), .long 0]) (rest := []) ⟨hx, hb, hml, hown, hts⟩ (c_X0_store l D cI cJ s5 ka va 752 n K V (pk a b) 0 (by omega) (by omega) (by assumption) (by omega) s.heap.size) (cwV 2 hts gX1_mark_X0_store rfl rfl rfl (by decide +kernel) ⟨Nat.le_of_ble_eq_true rfl, Nat.le_of_ble_eq_true rfl⟩) (z_preVw hK hP hD [1, 2, 3] (by decide) rfl rfl 0 1 rfl rfl) rfl rfl hl.1 rfl (lv_room (Nat.le_of_ble_eq_true rfl)) dX1_mark_27 ⟨Nat.zero_le _, Nat.zero_le _⟩) hS (fun q _ h => hFc q h) hFc (fun r_9 u_8 t H1 locs ht hvm hr_9 hB hzz1 hkk1 hS => ?_)
    obtain ⟨n10, K10, V10⟩ := u_8
    obtain ⟨hP1, hK1, hD1⟩ := hB
    rw [ht] at hP1
    try dsimp only at hr_9
    obtain ⟨hP, hD⟩ := va_join (wr := [(x, .inr (1, [.ref s0, .ref s1, .ref s2, .ref s3, .ref s4, .ref s5, .ref s6, .long tape, .long turn]))]) (w1 := [(s5, .inr (0, [.ref ka, .ref va, .int (nI n10)])), (ka, .inl (cJ, 752, .inr (.inl K10))), (va, .inl (cJ, 752, .inr (.inl V10)))]) hP hD [1, 2, 3] [0] rfl rfl (by decide) (by decide) hkk1 hFc hP1 hD1
    generalize H1 = H at hP hS ⊢
    have hP : va_P D vwCl [(x, .inr (1, [.ref s0, .ref s1, .ref s2, .ref s3, .ref s4, .ref s5, .ref s6, .long tape, .long turn])), (s5, .inr (0, [.ref ka, .ref va, .int (nI n10)])), (ka, .inl (cJ, 752, .inr (.inl K10))), (va, .inl (cJ, 752, .inr (.inl V10)))] H := hP.sub [0, 1, 2, 3] rfl
    have hD : va_D A [(x, .inr (1, [.ref s0, .ref s1, .ref s2, .ref s3, .ref s4, .ref s5, .ref s6, .long tape, .long turn])), (s5, .inr (0, [.ref ka, .ref va, .int (nI n10)])), (ka, .inl (cJ, 752, .inr (.inl K10))), (va, .inl (cJ, 752, .inr (.inl V10)))] := hD.sub [0, 1, 2, 3] (by decide) rfl
    refine lv_pop2_2 hx hb dX1_mark_30 rfl ?_
    refine lv_goto (tgt := 44) hx hb dX1_mark_31 (by decide) ?_
    refine lv_aload_n hx hb dX1_mark_44 rfl (lv_at hl 2 rfl) ?_
    refine va_get (D := D) (ci := 1) (v := .ref s5) (C := RX1) (T := TX1) (N := 9) hx hb hts lk1 hown hK hP 0 rfl rfl 5 (by decide) lk0 (fun _ h9 => h9) rfl dX1_mark_45 ?_
    refine vp_callSi (va_Run.run (va_runV (As := []) (rest := []) ⟨hx, hb, hml, hown, hts⟩ (c_X0_held l D cI cJ s5 ka va 752 n10 K10 V10  ) (cwV 0 hts gX1_mark_X0_held rfl rfl rfl (by decide +kernel) ⟨Nat.le_of_ble_eq_true rfl, Nat.le_of_ble_eq_true rfl⟩) (z_preV hK hP [1, 2, 3] rfl 0 1 rfl rfl) rfl rfl hl.1 rfl (lv_room (Nat.le_of_ble_eq_true rfl)) dX1_mark_48 ⟨Nat.zero_le _, Nat.zero_le _⟩)) (fun r_11 hr_11 => ?_)
    replace hr_11 := hr_11.symm
    subst hr_11
    exact W.iret (v := nI n10) hx hb hr (fun t ht hW => ⟨⟨nI n10, (n10, K10, V10), rfl, ⟨rfl, Or.inr ⟨hnf, _, hr_9⟩⟩, by rw [ht]; exact hP, va_K.moved hW.alike hK, hD⟩, hS.F ht⟩) hS.2.2 dX1_mark_51

set_option maxHeartbeats 4000000 in
set_option maxRecDepth 100000 in
theorem c_X1_around (l : Launch) (D : va_G) (cI cJ : ClassId) (x s0 s1 s2 s3 s4 s5 s6 : Nat) (tape turn : Int64) (ka va n : Nat) (K V : Nat → Int64) (hn : n ≤ 752) (hs : Srt n K) (a b : Int32) : Met l yX1_around wsX1_around { frames := 4, cells := 0, slots := 0, locals := 89 } (va_Pc [.ref x, .int a, .int b] (rP D cI cJ [(x, .inr (1, [.ref s0, .ref s1, .ref s2, .ref s3, .ref s4, .ref s5, .ref s6, .long tape, .long turn])), (s5, .inr (0, [.ref ka, .ref va, .int (nI n)])), (ka, .inl (cJ, 752, .inr (.inl K))), (va, .inl (cJ, 752, .inr (.inl V)))])) (vp_Si (fun r => r = nI (arK (fun i j => pB (∃ q, q < n ∧ K q = pk (a + off i) (b + off j))) 9))) 0 0 (fun _ => False) := by
  refine Met.ofW (cc := cX1_around) (maxL := 6) (ret := (some .int)) (by decide) rfl ?_
  intro p e s m args below meth c s₁ B hml hv
  obtain ⟨rfl, hP, hK⟩ := hv
  have hx := B.exec
  have hb := B.bytes
  have hr := B.returns
  have hts := atoms_spec (ws := wsX1_around) B.pre
  have hown : s.vm.findClass RX1 = some m.cls := findClass_of_methodNamed B.named
  have hlocks := B.notSynchronized
  have lk0 := hts (.fieldLink RX1 30 "KeyHall" "points" "LKeyHall$Sorted;") (by decide +kernel)
  have lk1 : ∀ w ∈ wsX10, w ∈ wsX1_around := by decide +kernel
  have hl := lv_entry ([.ref x, .int a, .int b]) (n := 6) (Nat.le_of_ble_eq_true rfl)
  rw [lg_entry_eq]
  generalize (lg_sl ([.ref x, .int a, .int b]) ++ List.replicate (6 - (lg_sl ([.ref x, .int a, .int b])).length) Slot.unset).toArray = ls at hl ⊢
  have hl : lv_has ls 6 [(0, .ref x), (1, .int a), (2, .int b)] := hl
  refine lv_iconst (v := nI 0) hx hb dX1_around_0 (by decide) ?_
  refine lv_istore_n (lv' := [(3, .int (nI 0)), (0, .ref x), (1, .int a), (2, .int b)]) hx hb dX1_around_1 rfl hl (by decide) rfl (fun ls hl => ?_)
  refine lv_iconst (v := (-1)) hx hb dX1_around_2 (by decide) ?_
  refine z_topi (y := off 0) (off_0.symm) ?_
  refine lv_istore (lv' := [(4, .int (off 0)), (3, .int (nI 0)), (0, .ref x), (1, .int a), (2, .int b)]) hx hb dX1_around_3 hl (by decide) rfl (fun ls hl => ?_)
  refine z_loop (σ := Nat) (fun i => 3 - i) (fun i ls => lv_has ls 6 [(0, .ref x), (1, .int a), (2, .int b), (3, .int (nI (arK (fun i j => pB (∃ q, q < n ∧ K q = pk (a + off i) (b + off j))) (3 * i)))), (4, .int (off i))] ∧ (i ≤ 3)) ?_ (0) _ ⟨lv_sub hl [2, 3, 4, 1, 0] rfl, by decide⟩
  rintro i ls ⟨hl, hi⟩ ih
  have hl : lv_has ls 6 [(0, .ref x), (1, .int a), (2, .int b), (3, .int (nI (arK (fun i j => pB (∃ q, q < n ∧ K q = pk (a + off i) (b + off j))) (3 * i)))), (4, .int (off i))] := hl
  have hle := arK_le (fun i j => pB (∃ q, q < n ∧ K q = pk (a + off i) (b + off j))) (3 * i)
  refine lv_iload hx hb dX1_around_5 (lv_at hl 4 rfl) ?_
  refine lv_iconst (v := nI 1) hx hb dX1_around_7 (by decide) ?_
  refine lv_icmp_gt (tgt := 66) hx hb dX1_around_8 (by decide) (fun c_8 => ?_) (fun c_8 => ?_)
  · have hi3 := (off_in hi).1 c_8
    refine lv_iload_n hx hb dX1_around_66 rfl (lv_at hl 3 rfl) ?_
    exact W.iret (v := nI (arK (fun i j => pB (∃ q, q < n ∧ K q = pk (a + off i) (b + off j))) (3 * i))) hx hb hr (fun t ht hW => ⟨nI (arK (fun i j => pB (∃ q, q < n ∧ K q = pk (a + off i) (b + off j))) (3 * i)), rfl, by rw [show 9 = 3 * i by omega], ht⟩) (fun _ h => nomatch h) dX1_around_67
  · have hi3 := (off_in hi).2 c_8
    refine lv_iconst (v := (-1)) hx hb dX1_around_11 (by decide) ?_
    refine z_topi (y := off 0) (off_0.symm) ?_
    refine lv_istore (lv' := [(5, .int (off 0)), (0, .ref x), (1, .int a), (2, .int b), (3, .int (nI (arK (fun i j => pB (∃ q, q < n ∧ K q = pk (a + off i) (b + off j))) (3 * i)))), (4, .int (off i))]) hx hb dX1_around_12 hl (by decide) rfl (fun ls hl => ?_)
    refine z_loop (σ := Nat) (fun j => 3 - j) (fun j ls => lv_has ls 6 [(0, .ref x), (1, .int a), (2, .int b), (3, .int (nI (arK (fun i j => pB (∃ q, q < n ∧ K q = pk (a + off i) (b + off j))) (3 * i + j)))), (4, .int (off i)), (5, .int (off j))] ∧ (j ≤ 3)) ?_ (0) _ ⟨lv_sub hl [1, 2, 3, 4, 5, 0] rfl, by decide⟩
    rintro j ls ⟨hl, hj⟩ ih2
    have hl : lv_has ls 6 [(0, .ref x), (1, .int a), (2, .int b), (3, .int (nI (arK (fun i j => pB (∃ q, q < n ∧ K q = pk (a + off i) (b + off j))) (3 * i + j)))), (4, .int (off i)), (5, .int (off j))] := hl
    have hle := arK_le (fun i j => pB (∃ q, q < n ∧ K q = pk (a + off i) (b + off j))) (3 * i + j)
    refine lv_iload hx hb dX1_around_14 (lv_at hl 5 rfl) ?_
    refine lv_iconst (v := nI 1) hx hb dX1_around_16 (by decide) ?_
    refine lv_icmp_gt (tgt := 60) hx hb dX1_around_17 (by decide) (fun c_17 => ?_) (fun c_17 => ?_)
    · have hj3 := (off_in hj).1 c_17
      rw [show 3 * i + j = 3 * (i + 1) by omega] at hl
      refine lv_iinc (v := off (i + 1)) (lv' := [(4, .int (off (i + 1))), (0, .ref x), (1, .int a), (2, .int b), (3, .int (nI (arK (fun i j => pB (∃ q, q < n ∧ K q = pk (a + off i) (b + off j))) (3 * (i + 1))))), (5, .int (off j))]) hx hb dX1_around_60 hl (k := 4) rfl (off_s i) (by decide) rfl (fun ls hl => ?_)
      refine lv_goto (tgt := 5) hx hb dX1_around_63 (by decide) ?_
      exact ih (i + 1) _ ⟨lv_sub hl [1, 2, 3, 4, 0] rfl, by omega⟩ (by first | omega | (dsimp only; omega))
    · have hj3 := (off_in hj).2 c_17
      refine lv_iload hx hb dX1_around_20 (lv_at hl 4 rfl) ?_
      refine lv_if_ne (tgt := 30) hx hb dX1_around_22 (by decide) (fun c_22 => ?_) (fun c_22 => ?_)
      · refine lv_aload_n hx hb dX1_around_30 rfl (lv_at hl 0 rfl) ?_
        refine va_get (D := D) (ci := 1) (v := .ref s5) (C := RX1) (T := TX1) (N := 9) hx hb hts lk1 hown hK hP 0 rfl rfl 5 (by decide) lk0 (fun _ h9 => h9) rfl dX1_around_31 ?_
        refine lv_iload_n hx hb dX1_around_34 rfl (lv_at hl 1 rfl) ?_
        refine lv_iload hx hb dX1_around_35 (lv_at hl 4 rfl) ?_
        refine lv_iadd hx hb dX1_around_37 ?_
        refine lv_iload_n hx hb dX1_around_38 rfl (lv_at hl 2 rfl) ?_
        refine lv_iload hx hb dX1_around_39 (lv_at hl 5 rfl) ?_
        refine lv_iadd hx hb dX1_around_41 ?_
        refine vp_callSl (va_Run.run (va_runS (As := [.int (a + (off i)), .int (b + (off j))]) (rest := [.ref s5]) ⟨hx, hb, hml, hown, hts⟩ (c_X1_pairKey l (a + (off i)) (b + (off j))) (va_cwS 2 hts gX1_around_X1_pairKey rfl rfl rfl (by decide +kernel) ⟨Nat.le_of_ble_eq_true rfl, Nat.le_of_ble_eq_true rfl⟩) z_preT rfl rfl hl.1 rfl (lv_room (Nat.le_of_ble_eq_true rfl)) dX1_around_42 ⟨Nat.zero_le _, Nat.zero_le _⟩)) (fun r_1 hr_1 => ?_)
        replace hr_1 := hr_1.symm
        subst hr_1
        refine vp_callSi (va_Run.run (va_runV (As := [.long (pk (a + (off i)) (b + (off j)))]) (rest := []) ⟨hx, hb, hml, hown, hts⟩ (c_X0_holds l D cI cJ s5 ka va 752 n K V (pk (a + (off i)) (b + (off j))) (by omega) (by omega) (by assumption)) (cwV 1 hts gX1_around_X0_holds rfl rfl rfl (by decide +kernel) ⟨Nat.le_of_ble_eq_true rfl, Nat.le_of_ble_eq_true rfl⟩) (z_preV hK hP [1, 2, 3] rfl 0 1 rfl rfl) rfl rfl hl.1 rfl (lv_room (Nat.le_of_ble_eq_true rfl)) dX1_around_45 ⟨Nat.zero_le _, Nat.zero_le _⟩)) (fun r_2 hr_2 => ?_)
        rcases hr_2 with ⟨hho, rfl⟩ | ⟨hho, rfl⟩
        · refine lv_if_eq (tgt := 54) hx hb dX1_around_48 (by decide) (fun q => absurd q (by decide)) (fun _ => ?_)
          refine lv_iinc (v := nI (arK (fun i j => pB (∃ q, q < n ∧ K q = pk (a + off i) (b + off j))) (3 * i + j) + 1)) (lv' := [(3, .int (nI (arK (fun i j => pB (∃ q, q < n ∧ K q = pk (a + off i) (b + off j))) (3 * i + j) + 1))), (0, .ref x), (1, .int a), (2, .int b), (4, .int (off i)), (5, .int (off j))]) hx hb dX1_around_51 hl (k := 3) rfl (nI_add (arK (fun i j => pB (∃ q, q < n ∧ K q = pk (a + off i) (b + off j))) (3 * i + j)) 1) (by decide) rfl (fun ls hl => ?_)
          rw [← arK_yes (P := fun i j => pB (∃ q, q < n ∧ K q = pk (a + off i) (b + off j))) hj3 (Or.inl (fun q => c_22 ((off_z hi3).mpr q))) (pB_t hho)] at hl
          have hl : lv_has ls 6 [(3, .int (nI (arK (fun i j => pB (∃ q, q < n ∧ K q = pk (a + off i) (b + off j))) (3 * i + (j + 1))))), (0, .ref x), (1, .int a), (2, .int b), (4, .int (off i)), (5, .int (off j))] := hl
          refine lv_iinc (v := off (j + 1)) (lv' := [(5, .int (off (j + 1))), (3, .int (nI (arK (fun i j => pB (∃ q, q < n ∧ K q = pk (a + off i) (b + off j))) (3 * i + (j + 1))))), (0, .ref x), (1, .int a), (2, .int b), (4, .int (off i))]) hx hb dX1_around_54 hl (k := 5) rfl (off_s j) (by decide) rfl (fun ls hl => ?_)
          refine lv_goto (tgt := 14) hx hb dX1_around_57 (by decide) ?_
          exact ih2 (j + 1) _ ⟨lv_sub hl [2, 3, 4, 1, 5, 0] rfl, by omega⟩ (by first | omega | (dsimp only; omega))
        · refine lv_if_eq (tgt := 54) hx hb dX1_around_48 (by decide) (fun _ => ?_) (fun q => absurd (by decide) q)
          rw [← arK_no (P := fun i j => pB (∃ q, q < n ∧ K q = pk (a + off i) (b + off j))) hj3 (pB_f (fun q => q.elim fun k h => hho k h.1 h.2))] at hl
          have hl : lv_has ls 6 [(0, .ref x), (1, .int a), (2, .int b), (3, .int (nI (arK (fun i j => pB (∃ q, q < n ∧ K q = pk (a + off i) (b + off j))) (3 * i + (j + 1))))), (4, .int (off i)), (5, .int (off j))] := hl
          refine lv_iinc (v := off (j + 1)) (lv' := [(5, .int (off (j + 1))), (0, .ref x), (1, .int a), (2, .int b), (3, .int (nI (arK (fun i j => pB (∃ q, q < n ∧ K q = pk (a + off i) (b + off j))) (3 * i + (j + 1))))), (4, .int (off i))]) hx hb dX1_around_54 hl (k := 5) rfl (off_s j) (by decide) rfl (fun ls hl => ?_)
          refine lv_goto (tgt := 14) hx hb dX1_around_57 (by decide) ?_
          exact ih2 (j + 1) _ ⟨lv_sub hl [1, 2, 3, 4, 5, 0] rfl, by omega⟩ (by first | omega | (dsimp only; omega))
      · refine lv_iload hx hb dX1_around_25 (lv_at hl 5 rfl) ?_
        refine lv_if_eq (tgt := 54) hx hb dX1_around_27 (by decide) (fun c_27 => ?_) (fun c_27 => ?_)
        · rw [← arK_mid (P := fun i j => pB (∃ q, q < n ∧ K q = pk (a + off i) (b + off j))) ((off_z hi3).mp c_22) ((off_z hj3).mp c_27)] at hl
          have hl : lv_has ls 6 [(0, .ref x), (1, .int a), (2, .int b), (3, .int (nI (arK (fun i j => pB (∃ q, q < n ∧ K q = pk (a + off i) (b + off j))) (3 * i + (j + 1))))), (4, .int (off i)), (5, .int (off j))] := hl
          refine lv_iinc (v := off (j + 1)) (lv' := [(5, .int (off (j + 1))), (0, .ref x), (1, .int a), (2, .int b), (3, .int (nI (arK (fun i j => pB (∃ q, q < n ∧ K q = pk (a + off i) (b + off j))) (3 * i + (j + 1))))), (4, .int (off i))]) hx hb dX1_around_54 hl (k := 5) rfl (off_s j) (by decide) rfl (fun ls hl => ?_)
          refine lv_goto (tgt := 14) hx hb dX1_around_57 (by decide) ?_
          exact ih2 (j + 1) _ ⟨lv_sub hl [1, 2, 3, 4, 5, 0] rfl, by omega⟩ (by first | omega | (dsimp only; omega))
        · refine lv_aload_n hx hb dX1_around_30 rfl (lv_at hl 0 rfl) ?_
          refine va_get (D := D) (ci := 1) (v := .ref s5) (C := RX1) (T := TX1) (N := 9) hx hb hts lk1 hown hK hP 0 rfl rfl 5 (by decide) lk0 (fun _ h9 => h9) rfl dX1_around_31 ?_
          refine lv_iload_n hx hb dX1_around_34 rfl (lv_at hl 1 rfl) ?_
          refine lv_iload hx hb dX1_around_35 (lv_at hl 4 rfl) ?_
          refine lv_iadd hx hb dX1_around_37 ?_
          refine lv_iload_n hx hb dX1_around_38 rfl (lv_at hl 2 rfl) ?_
          refine lv_iload hx hb dX1_around_39 (lv_at hl 5 rfl) ?_
          refine lv_iadd hx hb dX1_around_41 ?_
          refine vp_callSl (va_Run.run (va_runS (As := [.int (a + (off i)), .int (b + (off j))]) (rest := [.ref s5]) ⟨hx, hb, hml, hown, hts⟩ (c_X1_pairKey l (a + (off i)) (b + (off j))) (va_cwS 2 hts gX1_around_X1_pairKey rfl rfl rfl (by decide +kernel) ⟨Nat.le_of_ble_eq_true rfl, Nat.le_of_ble_eq_true rfl⟩) z_preT rfl rfl hl.1 rfl (lv_room (Nat.le_of_ble_eq_true rfl)) dX1_around_42 ⟨Nat.zero_le _, Nat.zero_le _⟩)) (fun r_3 hr_3 => ?_)
          replace hr_3 := hr_3.symm
          subst hr_3
          refine vp_callSi (va_Run.run (va_runV (As := [.long (pk (a + (off i)) (b + (off j)))]) (rest := []) ⟨hx, hb, hml, hown, hts⟩ (c_X0_holds l D cI cJ s5 ka va 752 n K V (pk (a + (off i)) (b + (off j))) (by omega) (by omega) (by assumption)) (cwV 1 hts gX1_around_X0_holds rfl rfl rfl (by decide +kernel) ⟨Nat.le_of_ble_eq_true rfl, Nat.le_of_ble_eq_true rfl⟩) (z_preV hK hP [1, 2, 3] rfl 0 1 rfl rfl) rfl rfl hl.1 rfl (lv_room (Nat.le_of_ble_eq_true rfl)) dX1_around_45 ⟨Nat.zero_le _, Nat.zero_le _⟩)) (fun r_4 hr_4 => ?_)
          rcases hr_4 with ⟨hho, rfl⟩ | ⟨hho, rfl⟩
          · refine lv_if_eq (tgt := 54) hx hb dX1_around_48 (by decide) (fun q => absurd q (by decide)) (fun _ => ?_)
            refine lv_iinc (v := nI (arK (fun i j => pB (∃ q, q < n ∧ K q = pk (a + off i) (b + off j))) (3 * i + j) + 1)) (lv' := [(3, .int (nI (arK (fun i j => pB (∃ q, q < n ∧ K q = pk (a + off i) (b + off j))) (3 * i + j) + 1))), (0, .ref x), (1, .int a), (2, .int b), (4, .int (off i)), (5, .int (off j))]) hx hb dX1_around_51 hl (k := 3) rfl (nI_add (arK (fun i j => pB (∃ q, q < n ∧ K q = pk (a + off i) (b + off j))) (3 * i + j)) 1) (by decide) rfl (fun ls hl => ?_)
            rw [← arK_yes (P := fun i j => pB (∃ q, q < n ∧ K q = pk (a + off i) (b + off j))) hj3 (Or.inr (fun q => c_27 ((off_z hj3).mpr q))) (pB_t hho)] at hl
            have hl : lv_has ls 6 [(3, .int (nI (arK (fun i j => pB (∃ q, q < n ∧ K q = pk (a + off i) (b + off j))) (3 * i + (j + 1))))), (0, .ref x), (1, .int a), (2, .int b), (4, .int (off i)), (5, .int (off j))] := hl
            refine lv_iinc (v := off (j + 1)) (lv' := [(5, .int (off (j + 1))), (3, .int (nI (arK (fun i j => pB (∃ q, q < n ∧ K q = pk (a + off i) (b + off j))) (3 * i + (j + 1))))), (0, .ref x), (1, .int a), (2, .int b), (4, .int (off i))]) hx hb dX1_around_54 hl (k := 5) rfl (off_s j) (by decide) rfl (fun ls hl => ?_)
            refine lv_goto (tgt := 14) hx hb dX1_around_57 (by decide) ?_
            exact ih2 (j + 1) _ ⟨lv_sub hl [2, 3, 4, 1, 5, 0] rfl, by omega⟩ (by first | omega | (dsimp only; omega))
          · refine lv_if_eq (tgt := 54) hx hb dX1_around_48 (by decide) (fun _ => ?_) (fun q => absurd (by decide) q)
            rw [← arK_no (P := fun i j => pB (∃ q, q < n ∧ K q = pk (a + off i) (b + off j))) hj3 (pB_f (fun q => q.elim fun k h => hho k h.1 h.2))] at hl
            have hl : lv_has ls 6 [(0, .ref x), (1, .int a), (2, .int b), (3, .int (nI (arK (fun i j => pB (∃ q, q < n ∧ K q = pk (a + off i) (b + off j))) (3 * i + (j + 1))))), (4, .int (off i)), (5, .int (off j))] := hl
            refine lv_iinc (v := off (j + 1)) (lv' := [(5, .int (off (j + 1))), (0, .ref x), (1, .int a), (2, .int b), (3, .int (nI (arK (fun i j => pB (∃ q, q < n ∧ K q = pk (a + off i) (b + off j))) (3 * i + (j + 1))))), (4, .int (off i))]) hx hb dX1_around_54 hl (k := 5) rfl (off_s j) (by decide) rfl (fun ls hl => ?_)
            refine lv_goto (tgt := 14) hx hb dX1_around_57 (by decide) ?_
            exact ih2 (j + 1) _ ⟨lv_sub hl [1, 2, 3, 4, 5, 0] rfl, by omega⟩ (by first | omega | (dsimp only; omega))

set_option maxHeartbeats 4000000 in
set_option maxRecDepth 100000 in
theorem c_X1_tallyAround (l : Launch) (D : va_G) (cI cJ : ClassId) (x s0 s1 s2 s3 s4 s5 s6 : Nat) (tape turn : Int64) (ka va n : Nat) (K V : Nat → Int64) (hn : n ≤ 752) (a b : Int32) (hits : List Int64) (hT : TAL (n, K, V) hits) (hlen : hits.length ≤ 480) (sz : Nat) : Met l yX1_tallyAround wsX1_tallyAround { frames := 3, cells := 0, slots := 0, locals := 76 } (va_Pc [.ref x, .int a, .int b] (wP D cI cJ [(x, .inr (1, [.ref s0, .ref s1, .ref s2, .ref s3, .ref s4, .ref s5, .ref s6, .long tape, .long turn])), (s6, .inr (0, [.ref ka, .ref va, .int (nI n)])), (ka, .inl (cJ, 752, .inr (.inl K))), (va, .inl (cJ, 752, .inr (.inl V)))] sz)) (va_Qv (fun (u : SS) => TAL u (hits ++ eig a b 9)) (wB D cI cJ (va_A [(x, .inr (1, [.ref s0, .ref s1, .ref s2, .ref s3, .ref s4, .ref s5, .ref s6, .long tape, .long turn])), (s6, .inr (0, [.ref ka, .ref va, .int (nI n)])), (ka, .inl (cJ, 752, .inr (.inl K))), (va, .inl (cJ, 752, .inr (.inl V)))] sz) (fun (n', K', V') => [(x, .inr (1, [.ref s0, .ref s1, .ref s2, .ref s3, .ref s4, .ref s5, .ref s6, .long tape, .long turn])), (s6, .inr (0, [.ref ka, .ref va, .int (nI n')])), (ka, .inl (cJ, 752, .inr (.inl K'))), (va, .inl (cJ, 752, .inr (.inl V')))])) (va_A [(x, .inr (1, [.ref s0, .ref s1, .ref s2, .ref s3, .ref s4, .ref s5, .ref s6, .long tape, .long turn])), (s6, .inr (0, [.ref ka, .ref va, .int (nI n)])), (ka, .inl (cJ, 752, .inr (.inl K))), (va, .inl (cJ, 752, .inr (.inl V)))] sz)) 0 0 (va_A [(x, .inr (1, [.ref s0, .ref s1, .ref s2, .ref s3, .ref s4, .ref s5, .ref s6, .long tape, .long turn])), (s6, .inr (0, [.ref ka, .ref va, .int (nI n)])), (ka, .inl (cJ, 752, .inr (.inl K))), (va, .inl (cJ, 752, .inr (.inl V)))] sz) := by
  refine Met.ofW (cc := cX1_tallyAround) (maxL := 5) (ret := none) (by decide) rfl ?_
  intro p e s m args below meth c s₁ B hml hv
  obtain ⟨rfl, hsz, hP, hK, hD0⟩ := hv
  have hx := B.exec
  have hb := B.bytes
  have hr := B.returns
  have hts := atoms_spec (ws := wsX1_tallyAround) B.pre
  have hown : s.vm.findClass RX1 = some m.cls := findClass_of_methodNamed B.named
  have hlocks := B.notSynchronized
  have lk0 := hts (.fieldLink RX1 33 "KeyHall" "tally" "LKeyHall$Sorted;") (by decide +kernel)
  have lk1 : ∀ w ∈ wsX10, w ∈ wsX1_tallyAround := by decide +kernel
  subst hsz
  have hD := hD0.self (sz := s.heap.size)
  generalize hAe : va_A [(x, .inr (1, [.ref s0, .ref s1, .ref s2, .ref s3, .ref s4, .ref s5, .ref s6, .long tape, .long turn])), (s6, .inr (0, [.ref ka, .ref va, .int (nI n)])), (ka, .inl (cJ, 752, .inr (.inl K))), (va, .inl (cJ, 752, .inr (.inl V)))] s.heap.size = A at hD ⊢
  have hA : ∀ q : Nat, s.heap.size ≤ q → A q := fun q h => by rw [← hAe]; exact Or.inr h
  have hS : va_S A s.heap s.heap [] := va_S.rf
  have hP : va_P D vwCl [(x, .inr (1, [.ref s0, .ref s1, .ref s2, .ref s3, .ref s4, .ref s5, .ref s6, .long tape, .long turn])), (s6, .inr (0, [.ref ka, .ref va, .int (nI n)])), (ka, .inl (cJ, 752, .inr (.inl K))), (va, .inl (cJ, 752, .inr (.inl V)))] s.heap := hP
  have hl := lv_entry ([.ref x, .int a, .int b]) (n := 5) (Nat.le_of_ble_eq_true rfl)
  rw [lg_entry_eq]
  generalize (lg_sl ([.ref x, .int a, .int b]) ++ List.replicate (5 - (lg_sl ([.ref x, .int a, .int b])).length) Slot.unset).toArray = ls at hl ⊢
  have hl : lv_has ls 5 [(0, .ref x), (1, .int a), (2, .int b)] := hl
  refine lv_iconst (v := (-1)) hx hb dX1_tallyAround_0 (by decide) ?_
  refine z_topi (y := off 0) (off_0.symm) ?_
  refine lv_istore_n (lv' := [(3, .int (off 0)), (0, .ref x), (1, .int a), (2, .int b)]) hx hb dX1_tallyAround_1 rfl hl (by decide) rfl (fun ls hl => ?_)
  refine z_loopw (σ := Nat × SS) (fun (i, n1, K1, V1) => 3 - i) (fun (i, n1, K1, V1) H locs ls => va_P D vwCl [(x, .inr (1, [.ref s0, .ref s1, .ref s2, .ref s3, .ref s4, .ref s5, .ref s6, .long tape, .long turn])), (s6, .inr (0, [.ref ka, .ref va, .int (nI n1)])), (ka, .inl (cJ, 752, .inr (.inl K1))), (va, .inl (cJ, 752, .inr (.inl V1)))] H ∧ va_D A [(x, .inr (1, [.ref s0, .ref s1, .ref s2, .ref s3, .ref s4, .ref s5, .ref s6, .long tape, .long turn])), (s6, .inr (0, [.ref ka, .ref va, .int (nI n1)])), (ka, .inl (cJ, 752, .inr (.inl K1))), (va, .inl (cJ, 752, .inr (.inl V1)))] ∧ va_S A s.heap H locs ∧ lv_has ls 5 [(0, .ref x), (1, .int a), (2, .int b), (3, .int (off i))] ∧ (i ≤ 3) ∧ (TAL (n1, K1, V1) (hits ++ eig a b (3 * i)))) ?_ ((0, n, K, V)) _ _ _ ⟨hP, hD, hS, lv_sub hl [1, 2, 3, 0] rfl, by decide, by show TAL _ (hits ++ []); rw [List.append_nil]; exact hT⟩
  rintro ⟨i, n1, K1, V1⟩ H locs ls ⟨hP, hD, hS, hl, hi, hT1⟩ ih
  have hP : va_P D vwCl [(x, .inr (1, [.ref s0, .ref s1, .ref s2, .ref s3, .ref s4, .ref s5, .ref s6, .long tape, .long turn])), (s6, .inr (0, [.ref ka, .ref va, .int (nI n1)])), (ka, .inl (cJ, 752, .inr (.inl K1))), (va, .inl (cJ, 752, .inr (.inl V1)))] H := hP
  have hl : lv_has ls 5 [(0, .ref x), (1, .int a), (2, .int b), (3, .int (off i))] := hl
  refine lv_iload_n hx hb dX1_tallyAround_2 rfl (lv_at hl 3 rfl) ?_
  refine lv_iconst (v := nI 1) hx hb dX1_tallyAround_3 (by decide) ?_
  refine lv_icmp_gt (tgt := 56) hx hb dX1_tallyAround_4 (by decide) (fun c_4 => ?_) (fun c_4 => ?_)
  · have hi3 := (off_in hi).1 c_4
    exact W.vret hx hb hr (fun t ht hW => ⟨⟨(n1, K1, V1), rfl, by rw [show 9 = 3 * i by omega]; exact hT1, by rw [ht]; exact hP, va_K.moved hW.alike hK, hD⟩, hS.F ht⟩) hS.2.2 dX1_tallyAround_56
  · have hi3 := (off_in hi).2 c_4
    refine lv_iconst (v := (-1)) hx hb dX1_tallyAround_7 (by decide) ?_
    refine z_topi (y := off 0) (off_0.symm) ?_
    refine lv_istore (lv' := [(4, .int (off 0)), (0, .ref x), (1, .int a), (2, .int b), (3, .int (off i))]) hx hb dX1_tallyAround_8 hl (by decide) rfl (fun ls hl => ?_)
    refine z_loopw (σ := Nat × SS) (fun (j, n2, K2, V2) => 3 - j) (fun (j, n2, K2, V2) H locs ls => va_P D vwCl [(x, .inr (1, [.ref s0, .ref s1, .ref s2, .ref s3, .ref s4, .ref s5, .ref s6, .long tape, .long turn])), (s6, .inr (0, [.ref ka, .ref va, .int (nI n2)])), (ka, .inl (cJ, 752, .inr (.inl K2))), (va, .inl (cJ, 752, .inr (.inl V2)))] H ∧ va_D A [(x, .inr (1, [.ref s0, .ref s1, .ref s2, .ref s3, .ref s4, .ref s5, .ref s6, .long tape, .long turn])), (s6, .inr (0, [.ref ka, .ref va, .int (nI n2)])), (ka, .inl (cJ, 752, .inr (.inl K2))), (va, .inl (cJ, 752, .inr (.inl V2)))] ∧ va_S A s.heap H locs ∧ lv_has ls 5 [(0, .ref x), (1, .int a), (2, .int b), (3, .int (off i)), (4, .int (off j))] ∧ (j ≤ 3) ∧ (TAL (n2, K2, V2) (hits ++ eig a b (3 * i + j)))) ?_ ((0, n1, K1, V1)) _ _ _ ⟨hP, hD, hS, lv_sub hl [1, 2, 3, 4, 0] rfl, by decide, hT1⟩
    rintro ⟨j, n2, K2, V2⟩ H locs ls ⟨hP, hD, hS, hl, hj, hT2⟩ ih2
    have hP : va_P D vwCl [(x, .inr (1, [.ref s0, .ref s1, .ref s2, .ref s3, .ref s4, .ref s5, .ref s6, .long tape, .long turn])), (s6, .inr (0, [.ref ka, .ref va, .int (nI n2)])), (ka, .inl (cJ, 752, .inr (.inl K2))), (va, .inl (cJ, 752, .inr (.inl V2)))] H := hP
    have hl : lv_has ls 5 [(0, .ref x), (1, .int a), (2, .int b), (3, .int (off i)), (4, .int (off j))] := hl
    refine lv_iload hx hb dX1_tallyAround_10 (lv_at hl 4 rfl) ?_
    refine lv_iconst (v := nI 1) hx hb dX1_tallyAround_12 (by decide) ?_
    refine lv_icmp_gt (tgt := 50) hx hb dX1_tallyAround_13 (by decide) (fun c_13 => ?_) (fun c_13 => ?_)
    · have hj3 := (off_in hj).1 c_13
      rw [show 3 * i + j = 3 * (i + 1) by omega] at hT2
      refine lv_iinc (v := off (i + 1)) (lv' := [(3, .int (off (i + 1))), (0, .ref x), (1, .int a), (2, .int b), (4, .int (off j))]) hx hb dX1_tallyAround_50 hl (k := 3) rfl (off_s i) (by decide) rfl (fun ls hl => ?_)
      refine lv_goto (tgt := 2) hx hb dX1_tallyAround_53 (by decide) ?_
      exact ih ((i + 1, n2, K2, V2)) _ _ _ ⟨hP, hD, hS, lv_sub hl [1, 2, 3, 0] rfl, by omega, hT2⟩ (by first | omega | (dsimp only; omega))
    · have hj3 := (off_in hj).2 c_13
      refine lv_iload_n hx hb dX1_tallyAround_16 rfl (lv_at hl 3 rfl) ?_
      refine lv_if_ne (tgt := 25) hx hb dX1_tallyAround_17 (by decide) (fun c_17 => ?_) (fun c_17 => ?_)
      · have hS2 : Srt n2 K2 := Sst.srt hT2.1
        have hl2 : n2 ≤ (hits ++ eig a b (3 * i + j)).length := hT2.2.2.2
        have hl3 := eig_le a b (3 * i + j)
        rw [List.length_append] at hl2
        refine lv_aload_n hx hb dX1_tallyAround_25 rfl (lv_at hl 0 rfl) ?_
        refine va_get (D := D) (ci := 1) (v := .ref s6) (C := RX1) (T := TX1) (N := 9) hx hb hts lk1 hown hK hP 0 rfl rfl 6 (by decide) lk0 (fun _ h9 => h9) rfl dX1_tallyAround_26 ?_
        refine lv_iload_n hx hb dX1_tallyAround_29 rfl (lv_at hl 1 rfl) ?_
        refine lv_iload_n hx hb dX1_tallyAround_30 rfl (lv_at hl 3 rfl) ?_
        refine lv_iadd hx hb dX1_tallyAround_31 ?_
        refine lv_iload_n hx hb dX1_tallyAround_32 rfl (lv_at hl 2 rfl) ?_
        refine lv_iload hx hb dX1_tallyAround_33 (lv_at hl 4 rfl) ?_
        refine lv_iadd hx hb dX1_tallyAround_35 ?_
        refine vp_callSl (va_Run.run (va_runS (As := [.int (a + (off i)), .int (b + (off j))]) (rest := [.ref s6]) ⟨hx, hb, hml, hown, hts⟩ (c_X1_pairKey l (a + (off i)) (b + (off j))) (va_cwS 2 hts gX1_tallyAround_X1_pairKey rfl rfl rfl (by decide +kernel) ⟨Nat.le_of_ble_eq_true rfl, Nat.le_of_ble_eq_true rfl⟩) z_preT rfl rfl hl.1 rfl (lv_room (Nat.le_of_ble_eq_true rfl)) dX1_tallyAround_36 ⟨Nat.zero_le _, Nat.zero_le _⟩)) (fun r_1 hr_1 => ?_)
        replace hr_1 := hr_1.symm
        subst hr_1
        refine lv_lconst (v := 1) hx hb dX1_tallyAround_39 (by decide) ?_
        have hFc := va_free (wc := [(s6, .inr (0, [.ref ka, .ref va, .int (nI n2)])), (ka, .inl (cJ, 752, .inr (.inl K2))), (va, .inl (cJ, 752, .inr (.inl V2)))]) hD hS hA [1, 2, 3] rfl
        refine va_calll (va_runV (As := [.long (pk (a + (off i)) (b + (off j))), .long 1]) (rest := []) ⟨hx, hb, hml, hown, hts⟩ (c_X0_raise l D cI cJ s6 ka va 752 n2 K2 V2 (pk (a + (off i)) (b + (off j))) 1 (by omega) (by omega) (by assumption) (by omega) H.size) (cwV 2 hts gX1_tallyAround_X0_raise rfl rfl rfl (by decide +kernel) ⟨Nat.le_of_ble_eq_true rfl, Nat.le_of_ble_eq_true rfl⟩) (z_preVw hK hP hD [1, 2, 3] (by decide) rfl rfl 0 1 rfl rfl) rfl rfl hl.1 rfl (lv_room (Nat.le_of_ble_eq_true rfl)) dX1_tallyAround_40 ⟨Nat.zero_le _, Nat.zero_le _⟩) hS (fun q _ h => hFc q h) hFc (fun r_3 u_2 t H1 locs ht hvm hr_3 hB hzz1 hkk1 hS => ?_)
        obtain ⟨n4, K4, V4⟩ := u_2
        obtain ⟨hP1, hK1, hD1⟩ := hB
        rw [ht] at hP1
        try dsimp only at hr_3
        obtain ⟨hP, hD⟩ := va_join (wr := [(x, .inr (1, [.ref s0, .ref s1, .ref s2, .ref s3, .ref s4, .ref s5, .ref s6, .long tape, .long turn]))]) (w1 := [(s6, .inr (0, [.ref ka, .ref va, .int (nI n4)])), (ka, .inl (cJ, 752, .inr (.inl K4))), (va, .inl (cJ, 752, .inr (.inl V4)))]) hP hD [1, 2, 3] [0] rfl rfl (by decide) (by decide) hkk1 hFc hP1 hD1
        generalize H1 = H at hP hS ⊢
        have hP : va_P D vwCl [(x, .inr (1, [.ref s0, .ref s1, .ref s2, .ref s3, .ref s4, .ref s5, .ref s6, .long tape, .long turn])), (s6, .inr (0, [.ref ka, .ref va, .int (nI n4)])), (ka, .inl (cJ, 752, .inr (.inl K4))), (va, .inl (cJ, 752, .inr (.inl V4)))] H := hP.sub [0, 1, 2, 3] rfl
        have hD : va_D A [(x, .inr (1, [.ref s0, .ref s1, .ref s2, .ref s3, .ref s4, .ref s5, .ref s6, .long tape, .long turn])), (s6, .inr (0, [.ref ka, .ref va, .int (nI n4)])), (ka, .inl (cJ, 752, .inr (.inl K4))), (va, .inl (cJ, 752, .inr (.inl V4)))] := hD.sub [0, 1, 2, 3] (by decide) rfl
        refine lv_pop2_2 hx hb dX1_tallyAround_43 rfl ?_
        refine lv_iinc (v := off (j + 1)) (lv' := [(4, .int (off (j + 1))), (0, .ref x), (1, .int a), (2, .int b), (3, .int (off i))]) hx hb dX1_tallyAround_44 hl (k := 4) rfl (off_s j) (by decide) rfl (fun ls hl => ?_)
        refine lv_goto (tgt := 10) hx hb dX1_tallyAround_47 (by decide) ?_
        exact ih2 ((j + 1, n4, K4, V4)) _ _ _ ⟨hP, hD, hS, lv_sub hl [1, 2, 3, 4, 0] rfl, by omega, by rw [eig_put hj3 (Or.inl (fun q => c_17 ((off_z hi3).mpr q))), ← List.append_assoc]; exact hT2.raise (by rw [List.length_append]; omega) hr_3⟩ (by first | omega | (dsimp only; omega))
      · refine lv_iload hx hb dX1_tallyAround_20 (lv_at hl 4 rfl) ?_
        refine lv_if_eq (tgt := 44) hx hb dX1_tallyAround_22 (by decide) (fun c_22 => ?_) (fun c_22 => ?_)
        · refine lv_iinc (v := off (j + 1)) (lv' := [(4, .int (off (j + 1))), (0, .ref x), (1, .int a), (2, .int b), (3, .int (off i))]) hx hb dX1_tallyAround_44 hl (k := 4) rfl (off_s j) (by decide) rfl (fun ls hl => ?_)
          refine lv_goto (tgt := 10) hx hb dX1_tallyAround_47 (by decide) ?_
          exact ih2 ((j + 1, n2, K2, V2)) _ _ _ ⟨hP, hD, hS, lv_sub hl [1, 2, 3, 4, 0] rfl, by omega, by rw [eig_mid ((off_z hi3).mp c_17) ((off_z hj3).mp c_22)]; exact hT2⟩ (by first | omega | (dsimp only; omega))
        · have hS2 : Srt n2 K2 := Sst.srt hT2.1
          have hl2 : n2 ≤ (hits ++ eig a b (3 * i + j)).length := hT2.2.2.2
          have hl3 := eig_le a b (3 * i + j)
          rw [List.length_append] at hl2
          refine lv_aload_n hx hb dX1_tallyAround_25 rfl (lv_at hl 0 rfl) ?_
          refine va_get (D := D) (ci := 1) (v := .ref s6) (C := RX1) (T := TX1) (N := 9) hx hb hts lk1 hown hK hP 0 rfl rfl 6 (by decide) lk0 (fun _ h9 => h9) rfl dX1_tallyAround_26 ?_
          refine lv_iload_n hx hb dX1_tallyAround_29 rfl (lv_at hl 1 rfl) ?_
          refine lv_iload_n hx hb dX1_tallyAround_30 rfl (lv_at hl 3 rfl) ?_
          refine lv_iadd hx hb dX1_tallyAround_31 ?_
          refine lv_iload_n hx hb dX1_tallyAround_32 rfl (lv_at hl 2 rfl) ?_
          refine lv_iload hx hb dX1_tallyAround_33 (lv_at hl 4 rfl) ?_
          refine lv_iadd hx hb dX1_tallyAround_35 ?_
          refine vp_callSl (va_Run.run (va_runS (As := [.int (a + (off i)), .int (b + (off j))]) (rest := [.ref s6]) ⟨hx, hb, hml, hown, hts⟩ (c_X1_pairKey l (a + (off i)) (b + (off j))) (va_cwS 2 hts gX1_tallyAround_X1_pairKey rfl rfl rfl (by decide +kernel) ⟨Nat.le_of_ble_eq_true rfl, Nat.le_of_ble_eq_true rfl⟩) z_preT rfl rfl hl.1 rfl (lv_room (Nat.le_of_ble_eq_true rfl)) dX1_tallyAround_36 ⟨Nat.zero_le _, Nat.zero_le _⟩)) (fun r_5 hr_5 => ?_)
          replace hr_5 := hr_5.symm
          subst hr_5
          refine lv_lconst (v := 1) hx hb dX1_tallyAround_39 (by decide) ?_
          have hFc := va_free (wc := [(s6, .inr (0, [.ref ka, .ref va, .int (nI n2)])), (ka, .inl (cJ, 752, .inr (.inl K2))), (va, .inl (cJ, 752, .inr (.inl V2)))]) hD hS hA [1, 2, 3] rfl
          refine va_calll (va_runV (As := [.long (pk (a + (off i)) (b + (off j))), .long 1]) (rest := []) ⟨hx, hb, hml, hown, hts⟩ (c_X0_raise l D cI cJ s6 ka va 752 n2 K2 V2 (pk (a + (off i)) (b + (off j))) 1 (by omega) (by omega) (by assumption) (by omega) H.size) (cwV 2 hts gX1_tallyAround_X0_raise rfl rfl rfl (by decide +kernel) ⟨Nat.le_of_ble_eq_true rfl, Nat.le_of_ble_eq_true rfl⟩) (z_preVw hK hP hD [1, 2, 3] (by decide) rfl rfl 0 1 rfl rfl) rfl rfl hl.1 rfl (lv_room (Nat.le_of_ble_eq_true rfl)) dX1_tallyAround_40 ⟨Nat.zero_le _, Nat.zero_le _⟩) hS (fun q _ h => hFc q h) hFc (fun r_7 u_6 t H1 locs ht hvm hr_7 hB hzz1 hkk1 hS => ?_)
          obtain ⟨n8, K8, V8⟩ := u_6
          obtain ⟨hP1, hK1, hD1⟩ := hB
          rw [ht] at hP1
          try dsimp only at hr_7
          obtain ⟨hP, hD⟩ := va_join (wr := [(x, .inr (1, [.ref s0, .ref s1, .ref s2, .ref s3, .ref s4, .ref s5, .ref s6, .long tape, .long turn]))]) (w1 := [(s6, .inr (0, [.ref ka, .ref va, .int (nI n8)])), (ka, .inl (cJ, 752, .inr (.inl K8))), (va, .inl (cJ, 752, .inr (.inl V8)))]) hP hD [1, 2, 3] [0] rfl rfl (by decide) (by decide) hkk1 hFc hP1 hD1
          generalize H1 = H at hP hS ⊢
          have hP : va_P D vwCl [(x, .inr (1, [.ref s0, .ref s1, .ref s2, .ref s3, .ref s4, .ref s5, .ref s6, .long tape, .long turn])), (s6, .inr (0, [.ref ka, .ref va, .int (nI n8)])), (ka, .inl (cJ, 752, .inr (.inl K8))), (va, .inl (cJ, 752, .inr (.inl V8)))] H := hP.sub [0, 1, 2, 3] rfl
          have hD : va_D A [(x, .inr (1, [.ref s0, .ref s1, .ref s2, .ref s3, .ref s4, .ref s5, .ref s6, .long tape, .long turn])), (s6, .inr (0, [.ref ka, .ref va, .int (nI n8)])), (ka, .inl (cJ, 752, .inr (.inl K8))), (va, .inl (cJ, 752, .inr (.inl V8)))] := hD.sub [0, 1, 2, 3] (by decide) rfl
          refine lv_pop2_2 hx hb dX1_tallyAround_43 rfl ?_
          refine lv_iinc (v := off (j + 1)) (lv' := [(4, .int (off (j + 1))), (0, .ref x), (1, .int a), (2, .int b), (3, .int (off i))]) hx hb dX1_tallyAround_44 hl (k := 4) rfl (off_s j) (by decide) rfl (fun ls hl => ?_)
          refine lv_goto (tgt := 10) hx hb dX1_tallyAround_47 (by decide) ?_
          exact ih2 ((j + 1, n8, K8, V8)) _ _ _ ⟨hP, hD, hS, lv_sub hl [1, 2, 3, 4, 0] rfl, by omega, by rw [eig_put hj3 (Or.inr (fun q => c_22 ((off_z hj3).mpr q))), ← List.append_assoc]; exact hT2.raise (by rw [List.length_append]; omega) hr_7⟩ (by first | omega | (dsimp only; omega))

set_option maxHeartbeats 4000000 in
set_option maxRecDepth 100000 in
theorem c_X1_tallyAllAround (l : Launch) (D : va_G) (cI cJ : ClassId) (x s0 s1 s2 s3 s4 s5 s6 : Nat) (tape turn : Int64) (kap vap np : Nat) (Kp Vp : Nat → Int64) (hnp : np ≤ 752) (ka va n : Nat) (K V : Nat → Int64) (hn : n ≤ 752) (hp60 : np ≤ 60) (sz : Nat) : Met l yX1_tallyAllAround wsX1_tallyAllAround { frames := 4, cells := 0, slots := 0, locals := 100 } (va_Pc [.ref x] (wP D cI cJ [(x, .inr (1, [.ref s0, .ref s1, .ref s2, .ref s3, .ref s4, .ref s5, .ref s6, .long tape, .long turn])), (s5, .inr (0, [.ref kap, .ref vap, .int (nI np)])), (kap, .inl (cJ, 752, .inr (.inl Kp))), (vap, .inl (cJ, 752, .inr (.inl Vp))), (s6, .inr (0, [.ref ka, .ref va, .int (nI n)])), (ka, .inl (cJ, 752, .inr (.inl K))), (va, .inl (cJ, 752, .inr (.inl V)))] sz)) (va_Qv (fun (u : SS) => TAL u (allE Kp np)) (wB D cI cJ (va_A [(x, .inr (1, [.ref s0, .ref s1, .ref s2, .ref s3, .ref s4, .ref s5, .ref s6, .long tape, .long turn])), (s5, .inr (0, [.ref kap, .ref vap, .int (nI np)])), (kap, .inl (cJ, 752, .inr (.inl Kp))), (vap, .inl (cJ, 752, .inr (.inl Vp))), (s6, .inr (0, [.ref ka, .ref va, .int (nI n)])), (ka, .inl (cJ, 752, .inr (.inl K))), (va, .inl (cJ, 752, .inr (.inl V)))] sz) (fun (n', K', V') => [(x, .inr (1, [.ref s0, .ref s1, .ref s2, .ref s3, .ref s4, .ref s5, .ref s6, .long tape, .long turn])), (s5, .inr (0, [.ref kap, .ref vap, .int (nI np)])), (kap, .inl (cJ, 752, .inr (.inl Kp))), (vap, .inl (cJ, 752, .inr (.inl Vp))), (s6, .inr (0, [.ref ka, .ref va, .int (nI n')])), (ka, .inl (cJ, 752, .inr (.inl K'))), (va, .inl (cJ, 752, .inr (.inl V')))])) (va_A [(x, .inr (1, [.ref s0, .ref s1, .ref s2, .ref s3, .ref s4, .ref s5, .ref s6, .long tape, .long turn])), (s5, .inr (0, [.ref kap, .ref vap, .int (nI np)])), (kap, .inl (cJ, 752, .inr (.inl Kp))), (vap, .inl (cJ, 752, .inr (.inl Vp))), (s6, .inr (0, [.ref ka, .ref va, .int (nI n)])), (ka, .inl (cJ, 752, .inr (.inl K))), (va, .inl (cJ, 752, .inr (.inl V)))] sz)) 0 0 (va_A [(x, .inr (1, [.ref s0, .ref s1, .ref s2, .ref s3, .ref s4, .ref s5, .ref s6, .long tape, .long turn])), (s5, .inr (0, [.ref kap, .ref vap, .int (nI np)])), (kap, .inl (cJ, 752, .inr (.inl Kp))), (vap, .inl (cJ, 752, .inr (.inl Vp))), (s6, .inr (0, [.ref ka, .ref va, .int (nI n)])), (ka, .inl (cJ, 752, .inr (.inl K))), (va, .inl (cJ, 752, .inr (.inl V)))] sz) := by
  refine Met.ofW (cc := cX1_tallyAllAround) (maxL := 4) (ret := none) (by decide) rfl ?_
  intro p e s m args below meth c s₁ B hml hv
  obtain ⟨rfl, hsz, hP, hK, hD0⟩ := hv
  have hx := B.exec
  have hb := B.bytes
  have hr := B.returns
  have hts := atoms_spec (ws := wsX1_tallyAllAround) B.pre
  have hown : s.vm.findClass RX1 = some m.cls := findClass_of_methodNamed B.named
  have hlocks := B.notSynchronized
  have lk0 := hts (.fieldLink RX1 33 "KeyHall" "tally" "LKeyHall$Sorted;") (by decide +kernel)
  have lk1 : ∀ w ∈ wsX10, w ∈ wsX1_tallyAllAround := by decide +kernel
  have lk2 := hts (.fieldLink RX1 30 "KeyHall" "points" "LKeyHall$Sorted;") (by decide +kernel)
  subst hsz
  have hD := hD0.self (sz := s.heap.size)
  generalize hAe : va_A [(x, .inr (1, [.ref s0, .ref s1, .ref s2, .ref s3, .ref s4, .ref s5, .ref s6, .long tape, .long turn])), (s5, .inr (0, [.ref kap, .ref vap, .int (nI np)])), (kap, .inl (cJ, 752, .inr (.inl Kp))), (vap, .inl (cJ, 752, .inr (.inl Vp))), (s6, .inr (0, [.ref ka, .ref va, .int (nI n)])), (ka, .inl (cJ, 752, .inr (.inl K))), (va, .inl (cJ, 752, .inr (.inl V)))] s.heap.size = A at hD ⊢
  have hA : ∀ q : Nat, s.heap.size ≤ q → A q := fun q h => by rw [← hAe]; exact Or.inr h
  have hS : va_S A s.heap s.heap [] := va_S.rf
  have hP : va_P D vwCl [(x, .inr (1, [.ref s0, .ref s1, .ref s2, .ref s3, .ref s4, .ref s5, .ref s6, .long tape, .long turn])), (s5, .inr (0, [.ref kap, .ref vap, .int (nI np)])), (kap, .inl (cJ, 752, .inr (.inl Kp))), (vap, .inl (cJ, 752, .inr (.inl Vp))), (s6, .inr (0, [.ref ka, .ref va, .int (nI n)])), (ka, .inl (cJ, 752, .inr (.inl K))), (va, .inl (cJ, 752, .inr (.inl V)))] s.heap := hP
  have hl := lv_entry ([.ref x]) (n := 4) (Nat.le_of_ble_eq_true rfl)
  rw [lg_entry_eq]
  generalize (lg_sl ([.ref x]) ++ List.replicate (4 - (lg_sl ([.ref x])).length) Slot.unset).toArray = ls at hl ⊢
  have hl : lv_has ls 4 [(0, .ref x)] := hl
  refine lv_aload_n hx hb dX1_tallyAllAround_0 rfl (lv_at hl 0 rfl) ?_
  refine va_get (D := D) (ci := 1) (v := .ref s6) (C := RX1) (T := TX1) (N := 9) hx hb hts lk1 hown hK hP 0 rfl rfl 6 (by decide) lk0 (fun _ h9 => h9) rfl dX1_tallyAllAround_1 ?_
  refine lv_iconst (v := nI 0) hx hb dX1_tallyAllAround_4 (by decide) ?_
  have hFc := va_free (wc := [(s6, .inr (0, [.ref ka, .ref va, .int (nI n)])), (ka, .inl (cJ, 752, .inr (.inl K))), (va, .inl (cJ, 752, .inr (.inl V)))]) hD hS hA [4, 5, 6] rfl
  refine va_callv (va_runV (As := [.int (nI 0)]) (rest := []) ⟨hx, hb, hml, hown, hts⟩ (c_X0_shorten l D cI cJ s6 ka va 752 n K V 0 (by omega) (by omega) (by omega) s.heap.size) (cwV 1 hts gX1_tallyAllAround_X0_shorten rfl rfl rfl (by decide +kernel) ⟨Nat.le_of_ble_eq_true rfl, Nat.le_of_ble_eq_true rfl⟩) (z_preVw hK hP hD [4, 5, 6] (by decide) rfl rfl 0 4 rfl rfl) rfl rfl hl.1 rfl (lv_room (Nat.le_of_ble_eq_true rfl)) dX1_tallyAllAround_5 ⟨Nat.zero_le _, Nat.zero_le _⟩) hS (fun q _ h => hFc q h) hFc (fun u_1 t H1 locs ht hvm hr_2 hB hzz1 hkk1 hS => ?_)
  obtain ⟨n3, K3, V3⟩ := u_1
  obtain ⟨hP1, hK1, hD1⟩ := hB
  rw [ht] at hP1
  try dsimp only at hr_2
  obtain ⟨hP, hD⟩ := va_join (wr := [(x, .inr (1, [.ref s0, .ref s1, .ref s2, .ref s3, .ref s4, .ref s5, .ref s6, .long tape, .long turn])), (s5, .inr (0, [.ref kap, .ref vap, .int (nI np)])), (kap, .inl (cJ, 752, .inr (.inl Kp))), (vap, .inl (cJ, 752, .inr (.inl Vp)))]) (w1 := [(s6, .inr (0, [.ref ka, .ref va, .int (nI n3)])), (ka, .inl (cJ, 752, .inr (.inl K3))), (va, .inl (cJ, 752, .inr (.inl V3)))]) hP hD [4, 5, 6] [0, 1, 2, 3] rfl rfl (by decide) (by decide) hkk1 hFc hP1 hD1
  generalize H1 = H at hP hS ⊢
  have hP : va_P D vwCl [(x, .inr (1, [.ref s0, .ref s1, .ref s2, .ref s3, .ref s4, .ref s5, .ref s6, .long tape, .long turn])), (s5, .inr (0, [.ref kap, .ref vap, .int (nI np)])), (kap, .inl (cJ, 752, .inr (.inl Kp))), (vap, .inl (cJ, 752, .inr (.inl Vp))), (s6, .inr (0, [.ref ka, .ref va, .int (nI n3)])), (ka, .inl (cJ, 752, .inr (.inl K3))), (va, .inl (cJ, 752, .inr (.inl V3)))] H := hP.sub [0, 1, 2, 3, 4, 5, 6] rfl
  have hD : va_D A [(x, .inr (1, [.ref s0, .ref s1, .ref s2, .ref s3, .ref s4, .ref s5, .ref s6, .long tape, .long turn])), (s5, .inr (0, [.ref kap, .ref vap, .int (nI np)])), (kap, .inl (cJ, 752, .inr (.inl Kp))), (vap, .inl (cJ, 752, .inr (.inl Vp))), (s6, .inr (0, [.ref ka, .ref va, .int (nI n3)])), (ka, .inl (cJ, 752, .inr (.inl K3))), (va, .inl (cJ, 752, .inr (.inl V3)))] := hD.sub [0, 1, 2, 3, 4, 5, 6] (by decide) rfl
  obtain ⟨rfl, rfl, rfl⟩ : 0 = n3 ∧ K = K3 ∧ V = V3 := by injection hr_2 with a1 a2; injection a2 with a2 a3; exact ⟨a1.symm, a2.symm, a3.symm⟩
  refine lv_iconst (v := nI 0) hx hb dX1_tallyAllAround_8 (by decide) ?_
  refine lv_istore_n (lv' := [(1, .int (nI 0)), (0, .ref x)]) hx hb dX1_tallyAllAround_9 rfl hl (by decide) rfl (fun ls hl => ?_)
  refine z_loopw (σ := Nat × SS) (fun (i, n1, K1, V1) => np - i) (fun (i, n1, K1, V1) H locs ls => va_P D vwCl [(x, .inr (1, [.ref s0, .ref s1, .ref s2, .ref s3, .ref s4, .ref s5, .ref s6, .long tape, .long turn])), (s5, .inr (0, [.ref kap, .ref vap, .int (nI np)])), (kap, .inl (cJ, 752, .inr (.inl Kp))), (vap, .inl (cJ, 752, .inr (.inl Vp))), (s6, .inr (0, [.ref ka, .ref va, .int (nI n1)])), (ka, .inl (cJ, 752, .inr (.inl K1))), (va, .inl (cJ, 752, .inr (.inl V1)))] H ∧ va_D A [(x, .inr (1, [.ref s0, .ref s1, .ref s2, .ref s3, .ref s4, .ref s5, .ref s6, .long tape, .long turn])), (s5, .inr (0, [.ref kap, .ref vap, .int (nI np)])), (kap, .inl (cJ, 752, .inr (.inl Kp))), (vap, .inl (cJ, 752, .inr (.inl Vp))), (s6, .inr (0, [.ref ka, .ref va, .int (nI n1)])), (ka, .inl (cJ, 752, .inr (.inl K1))), (va, .inl (cJ, 752, .inr (.inl V1)))] ∧ va_S A s.heap H locs ∧ lv_has ls 4 [(0, .ref x), (1, .int (nI i))] ∧ (i ≤ np) ∧ (TAL (n1, K1, V1) (allE Kp i))) ?_ ((0, 0, K, V)) _ _ _ ⟨hP, hD, hS, lv_sub hl [1, 0] rfl, Nat.zero_le _, TAL.nil⟩
  rintro ⟨i, n1, K1, V1⟩ H locs ls ⟨hP, hD, hS, hl, hi, hT1⟩ ih
  have hP : va_P D vwCl [(x, .inr (1, [.ref s0, .ref s1, .ref s2, .ref s3, .ref s4, .ref s5, .ref s6, .long tape, .long turn])), (s5, .inr (0, [.ref kap, .ref vap, .int (nI np)])), (kap, .inl (cJ, 752, .inr (.inl Kp))), (vap, .inl (cJ, 752, .inr (.inl Vp))), (s6, .inr (0, [.ref ka, .ref va, .int (nI n1)])), (ka, .inl (cJ, 752, .inr (.inl K1))), (va, .inl (cJ, 752, .inr (.inl V1)))] H := hP
  have hl : lv_has ls 4 [(0, .ref x), (1, .int (nI i))] := hl
  have hle := allE_le Kp i
  have hn1 : n1 ≤ (allE Kp i).length := hT1.2.2.2
  refine lv_iload_n hx hb dX1_tallyAllAround_10 rfl (lv_at hl 1 rfl) ?_
  refine lv_aload_n hx hb dX1_tallyAllAround_11 rfl (lv_at hl 0 rfl) ?_
  refine va_get (D := D) (ci := 1) (v := .ref s5) (C := RX1) (T := TX1) (N := 9) hx hb hts lk1 hown hK hP 0 rfl rfl 5 (by decide) lk2 (fun _ h9 => h9) rfl dX1_tallyAllAround_12 ?_
  refine vp_callSi (va_Run.run (va_runV (As := []) (rest := [.int (nI i)]) ⟨hx, hb, hml, hown, hts⟩ (c_X0_held l D cI cJ s5 kap vap 752 np Kp Vp  ) (cwV 0 hts gX1_tallyAllAround_X0_held rfl rfl rfl (by decide +kernel) ⟨Nat.le_of_ble_eq_true rfl, Nat.le_of_ble_eq_true rfl⟩) (z_preV hK hP [1, 2, 3] rfl 0 1 rfl rfl) rfl rfl hl.1 rfl (lv_room (Nat.le_of_ble_eq_true rfl)) dX1_tallyAllAround_15 ⟨Nat.zero_le _, Nat.zero_le _⟩)) (fun r_4 hr_4 => ?_)
  replace hr_4 := hr_4.symm
  subst hr_4
  refine z_icmp_ge (tgt := 48) hx hb dX1_tallyAllAround_18 (by decide) (by omega) (by omega) (fun c_18 => ?_) (fun c_18 => ?_)
  · exact W.vret hx hb hr (fun t ht hW => ⟨⟨(n1, K1, V1), rfl, by rw [← Nat.le_antisymm hi c_18]; exact hT1, by rw [ht]; exact hP, va_K.moved hW.alike hK, hD⟩, hS.F ht⟩) hS.2.2 dX1_tallyAllAround_48
  · refine lv_aload_n hx hb dX1_tallyAllAround_21 rfl (lv_at hl 0 rfl) ?_
    refine va_get (D := D) (ci := 1) (v := .ref s5) (C := RX1) (T := TX1) (N := 9) hx hb hts lk1 hown hK hP 0 rfl rfl 5 (by decide) lk2 (fun _ h9 => h9) rfl dX1_tallyAllAround_22 ?_
    refine lv_iload_n hx hb dX1_tallyAllAround_25 rfl (lv_at hl 1 rfl) ?_
    refine vp_callSl (va_Run.run (va_runV (As := [.int (nI i)]) (rest := []) ⟨hx, hb, hml, hown, hts⟩ (c_X0_keyAt l D cI cJ s5 kap vap 752 np Kp Vp (nI i) (by omega) (by omega)) (cwV 1 hts gX1_tallyAllAround_X0_keyAt rfl rfl rfl (by decide +kernel) ⟨Nat.le_of_ble_eq_true rfl, Nat.le_of_ble_eq_true rfl⟩) (z_preV hK hP [1, 2, 3] rfl 0 1 rfl rfl) rfl rfl hl.1 rfl (lv_room (Nat.le_of_ble_eq_true rfl)) dX1_tallyAllAround_26 ⟨Nat.zero_le _, Nat.zero_le _⟩)) (fun r_5 hr_5 => ?_)
    replace hr_5 := hr_5.symm
    subst hr_5
    refine z_topl (y := Kp i) (vAt_N (by omega) (by omega)) ?_
    refine lv_lstore_n (lv' := [(2, .long (Kp i)), (0, .ref x), (1, .int (nI i))]) hx hb dX1_tallyAllAround_29 rfl hl (by decide) rfl (fun ls hl => ?_)
    refine lv_aload_n hx hb dX1_tallyAllAround_30 rfl (lv_at hl 1 rfl) ?_
    refine lv_lload_n hx hb dX1_tallyAllAround_31 rfl (lv_at hl 0 rfl) ?_
    refine vp_callSi (va_Run.run (va_runS (As := [.long (Kp i)]) (rest := [.ref x]) ⟨hx, hb, hml, hown, hts⟩ (c_X1_firstOf l (Kp i)) (va_cwS 1 hts gX1_tallyAllAround_X1_firstOf rfl rfl rfl (by decide +kernel) ⟨Nat.le_of_ble_eq_true rfl, Nat.le_of_ble_eq_true rfl⟩) z_preT rfl rfl hl.1 rfl (lv_room (Nat.le_of_ble_eq_true rfl)) dX1_tallyAllAround_32 ⟨Nat.zero_le _, Nat.zero_le _⟩)) (fun r_6 hr_6 => ?_)
    replace hr_6 := hr_6.symm
    subst hr_6
    refine lv_lload_n hx hb dX1_tallyAllAround_35 rfl (lv_at hl 0 rfl) ?_
    refine vp_callSi (va_Run.run (va_runS (As := [.long (Kp i)]) (rest := [.int (fsK (Kp i)), .ref x]) ⟨hx, hb, hml, hown, hts⟩ (c_X1_secondOf l (Kp i)) (va_cwS 1 hts gX1_tallyAllAround_X1_secondOf rfl rfl rfl (by decide +kernel) ⟨Nat.le_of_ble_eq_true rfl, Nat.le_of_ble_eq_true rfl⟩) z_preT rfl rfl hl.1 rfl (lv_room (Nat.le_of_ble_eq_true rfl)) dX1_tallyAllAround_36 ⟨Nat.zero_le _, Nat.zero_le _⟩)) (fun r_7 hr_7 => ?_)
    replace hr_7 := hr_7.symm
    subst hr_7
    have hFc := va_free (wc := [(x, .inr (1, [.ref s0, .ref s1, .ref s2, .ref s3, .ref s4, .ref s5, .ref s6, .long tape, .long turn])), (s6, .inr (0, [.ref ka, .ref va, .int (nI n1)])), (ka, .inl (cJ, 752, .inr (.inl K1))), (va, .inl (cJ, 752, .inr (.inl V1)))]) hD hS hA [0, 4, 5, 6] rfl
    refine va_callv (va_runV (As := [.int (fsK (Kp i)), .int (snK (Kp i))]) (rest := []) ⟨hx, hb, hml, hown, hts⟩ (c_X1_tallyAround l D cI cJ x s0 s1 s2 s3 s4 s5 s6 tape turn ka va n1 K1 V1 (by omega) (fsK (Kp i)) (snK (Kp i)) (allE Kp i) hT1 (by omega) H.size) (cwV 2 hts gX1_tallyAllAround_X1_tallyAround rfl rfl rfl (by decide +kernel) ⟨Nat.le_of_ble_eq_true rfl, Nat.le_of_ble_eq_true rfl⟩) (z_preVw hK hP hD [0, 4, 5, 6] (by decide) rfl rfl 1 0 rfl rfl) rfl rfl hl.1 rfl (lv_room (Nat.le_of_ble_eq_true rfl)) dX1_tallyAllAround_39 ⟨Nat.zero_le _, Nat.zero_le _⟩) hS (fun q _ h => hFc q h) hFc (fun u_9 t H1 locs ht hvm hr_8 hB hzz1 hkk1 hS => ?_)
    obtain ⟨n10, K10, V10⟩ := u_9
    obtain ⟨hP1, hK1, hD1⟩ := hB
    rw [ht] at hP1
    try dsimp only at hr_8
    obtain ⟨hP, hD⟩ := va_join (wr := [(s5, .inr (0, [.ref kap, .ref vap, .int (nI np)])), (kap, .inl (cJ, 752, .inr (.inl Kp))), (vap, .inl (cJ, 752, .inr (.inl Vp)))]) (w1 := [(x, .inr (1, [.ref s0, .ref s1, .ref s2, .ref s3, .ref s4, .ref s5, .ref s6, .long tape, .long turn])), (s6, .inr (0, [.ref ka, .ref va, .int (nI n10)])), (ka, .inl (cJ, 752, .inr (.inl K10))), (va, .inl (cJ, 752, .inr (.inl V10)))]) hP hD [0, 4, 5, 6] [1, 2, 3] rfl rfl (by decide) (by decide) hkk1 hFc hP1 hD1
    generalize H1 = H at hP hS ⊢
    have hP : va_P D vwCl [(x, .inr (1, [.ref s0, .ref s1, .ref s2, .ref s3, .ref s4, .ref s5, .ref s6, .long tape, .long turn])), (s5, .inr (0, [.ref kap, .ref vap, .int (nI np)])), (kap, .inl (cJ, 752, .inr (.inl Kp))), (vap, .inl (cJ, 752, .inr (.inl Vp))), (s6, .inr (0, [.ref ka, .ref va, .int (nI n10)])), (ka, .inl (cJ, 752, .inr (.inl K10))), (va, .inl (cJ, 752, .inr (.inl V10)))] H := hP.sub [3, 0, 1, 2, 4, 5, 6] rfl
    have hD : va_D A [(x, .inr (1, [.ref s0, .ref s1, .ref s2, .ref s3, .ref s4, .ref s5, .ref s6, .long tape, .long turn])), (s5, .inr (0, [.ref kap, .ref vap, .int (nI np)])), (kap, .inl (cJ, 752, .inr (.inl Kp))), (vap, .inl (cJ, 752, .inr (.inl Vp))), (s6, .inr (0, [.ref ka, .ref va, .int (nI n10)])), (ka, .inl (cJ, 752, .inr (.inl K10))), (va, .inl (cJ, 752, .inr (.inl V10)))] := hD.sub [3, 0, 1, 2, 4, 5, 6] (by decide) rfl
    refine lv_iinc (v := nI (i + 1)) (lv' := [(1, .int (nI (i + 1))), (2, .long (Kp i)), (0, .ref x)]) hx hb dX1_tallyAllAround_42 hl (k := 2) rfl (nI_add i 1) (by decide) rfl (fun ls hl => ?_)
    refine lv_goto (tgt := 10) hx hb dX1_tallyAllAround_45 (by decide) ?_
    exact ih ((i + 1, n10, K10, V10)) _ _ _ ⟨hP, hD, hS, lv_sub hl [2, 0] rfl, by omega, hr_8⟩ (by first | omega | (dsimp only; omega))

set_option maxHeartbeats 4000000 in
set_option maxRecDepth 100000 in
theorem c_X1_isMarkedThen (l : Launch) (D : va_G) (cI cJ : ClassId) (x s0 s1 s2 s3 s4 s5 s6 : Nat) (tape turn : Int64) (ka va n : Nat) (K V : Nat → Int64) (hn : n ≤ 752) (hs : Srt n K) (pt mm : Int64) : Met l yX1_isMarkedThen wsX1_isMarkedThen { frames := 4, cells := 0, slots := 0, locals := 89 } (va_Pc [.ref x, .long pt, .long mm] (rP D cI cJ [(x, .inr (1, [.ref s0, .ref s1, .ref s2, .ref s3, .ref s4, .ref s5, .ref s6, .long tape, .long turn])), (s5, .inr (0, [.ref ka, .ref va, .int (nI n)])), (ka, .inl (cJ, 752, .inr (.inl K))), (va, .inl (cJ, 752, .inr (.inl V)))])) (vp_Si (fun r => ((mm = 3 ∨ (mm = 2 ∧ ∃ j, j < n ∧ K j = pt)) ∧ r = nI 1) ∨ (¬ (mm = 3 ∨ (mm = 2 ∧ ∃ j, j < n ∧ K j = pt)) ∧ r = nI 0))) 0 0 (fun _ => False) := by
  refine Met.ofW (cc := cX1_isMarkedThen) (maxL := 5) (ret := (some .boolean)) (by decide) rfl ?_
  intro p e s m args below meth c s₁ B hml hv
  obtain ⟨rfl, hP, hK⟩ := hv
  have hx := B.exec
  have hb := B.bytes
  have hr := B.returns
  have hts := atoms_spec (ws := wsX1_isMarkedThen) B.pre
  have hown : s.vm.findClass RX1 = some m.cls := findClass_of_methodNamed B.named
  have hlocks := B.notSynchronized
  have lk0 := hts (.constantLong RX1 146 (3)) (by decide +kernel)
  have lk1 := hts (.constantLong RX1 148 (2)) (by decide +kernel)
  have lk2 := hts (.fieldLink RX1 30 "KeyHall" "points" "LKeyHall$Sorted;") (by decide +kernel)
  have lk3 : ∀ w ∈ wsX10, w ∈ wsX1_isMarkedThen := by decide +kernel
  have hl := lv_entry ([.ref x, .long pt, .long mm]) (n := 5) (Nat.le_of_ble_eq_true rfl)
  rw [lg_entry_eq]
  generalize (lg_sl ([.ref x, .long pt, .long mm]) ++ List.replicate (5 - (lg_sl ([.ref x, .long pt, .long mm])).length) Slot.unset).toArray = ls at hl ⊢
  have hl : lv_has ls 5 [(0, .ref x), (1, .long pt), (3, .long mm)] := hl
  refine lv_lload_n hx hb dX1_isMarkedThen_0 rfl (lv_at hl 2 rfl) ?_
  refine lv_ldc2 hx hb hown lk0 dX1_isMarkedThen_1 ?_
  refine z_lc_eq (tgt := 27) hx hb dX1_isMarkedThen_4 dX1_isMarkedThen_5 (by decide) (fun c_5 => ?_) (fun c_5 => ?_)
  · refine lv_iconst (v := nI 1) hx hb dX1_isMarkedThen_27 (by decide) ?_
    refine lv_goto (tgt := 32) hx hb dX1_isMarkedThen_28 (by decide) ?_
    exact W.zret (v := nI 1) hx hb hr (by decide) (fun t ht hW => ⟨nI 1, rfl, Or.inl ⟨Or.inl c_5, rfl⟩, ht⟩) (fun _ h => nomatch h) dX1_isMarkedThen_32
  · refine lv_lload_n hx hb dX1_isMarkedThen_8 rfl (lv_at hl 2 rfl) ?_
    refine lv_ldc2 hx hb hown lk1 dX1_isMarkedThen_9 ?_
    refine z_lc_ne (tgt := 31) hx hb dX1_isMarkedThen_12 dX1_isMarkedThen_13 (by decide) (fun c_13 => ?_) (fun c_13 => ?_)
    · refine lv_iconst (v := nI 0) hx hb dX1_isMarkedThen_31 (by decide) ?_
      exact W.zret (v := nI 0) hx hb hr (by decide) (fun t ht hW => ⟨nI 0, rfl, Or.inr ⟨fun q => q.elim c_5 (fun z => c_13 z.1), rfl⟩, ht⟩) (fun _ h => nomatch h) dX1_isMarkedThen_32
    · refine lv_aload_n hx hb dX1_isMarkedThen_16 rfl (lv_at hl 0 rfl) ?_
      refine va_get (D := D) (ci := 1) (v := .ref s5) (C := RX1) (T := TX1) (N := 9) hx hb hts lk3 hown hK hP 0 rfl rfl 5 (by decide) lk2 (fun _ h9 => h9) rfl dX1_isMarkedThen_17 ?_
      refine lv_lload_n hx hb dX1_isMarkedThen_20 rfl (lv_at hl 1 rfl) ?_
      refine vp_callSi (va_Run.run (va_runV (As := [.long pt]) (rest := []) ⟨hx, hb, hml, hown, hts⟩ (c_X0_holds l D cI cJ s5 ka va 752 n K V pt (by omega) (by omega) (by assumption)) (cwV 1 hts gX1_isMarkedThen_X0_holds rfl rfl rfl (by decide +kernel) ⟨Nat.le_of_ble_eq_true rfl, Nat.le_of_ble_eq_true rfl⟩) (z_preV hK hP [1, 2, 3] rfl 0 1 rfl rfl) rfl rfl hl.1 rfl (lv_room (Nat.le_of_ble_eq_true rfl)) dX1_isMarkedThen_21 ⟨Nat.zero_le _, Nat.zero_le _⟩)) (fun r_1 hr_1 => ?_)
      rcases hr_1 with ⟨hho, rfl⟩ | ⟨hho, rfl⟩
      · refine lv_if_eq (tgt := 31) hx hb dX1_isMarkedThen_24 (by decide) (fun q => absurd q (by decide)) (fun _ => ?_)
        refine lv_iconst (v := nI 1) hx hb dX1_isMarkedThen_27 (by decide) ?_
        refine lv_goto (tgt := 32) hx hb dX1_isMarkedThen_28 (by decide) ?_
        exact W.zret (v := nI 1) hx hb hr (by decide) (fun t ht hW => ⟨nI 1, rfl, Or.inl ⟨Or.inr ⟨c_13, hho⟩, rfl⟩, ht⟩) (fun _ h => nomatch h) dX1_isMarkedThen_32
      · refine lv_if_eq (tgt := 31) hx hb dX1_isMarkedThen_24 (by decide) (fun _ => ?_) (fun q => absurd (by decide) q)
        refine lv_iconst (v := nI 0) hx hb dX1_isMarkedThen_31 (by decide) ?_
        exact W.zret (v := nI 0) hx hb hr (by decide) (fun t ht hW => ⟨nI 0, rfl, Or.inr ⟨fun q => q.elim c_5 (fun z => z.2.elim fun j h => hho j h.1 h.2), rfl⟩, ht⟩) (fun _ h => nomatch h) dX1_isMarkedThen_32

set_option maxHeartbeats 4000000 in
set_option maxRecDepth 100000 in
theorem c_X1_step (l : Launch) (D : va_G) (cI cJ : ClassId) (x s0 s1 s2 s3 s4 s5 s6 : Nat) (tape turn : Int64) (kap vap np : Nat) (Kp Vp : Nat → Int64) (hnp : np ≤ 752) (hs : Srt np Kp) (ka va n : Nat) (K V : Nat → Int64) (hn : n ≤ 752) (sz : Nat) : Met l yX1_step wsX1_step { frames := 5, cells := 0, slots := 0, locals := 123 } (va_Pc [.ref x] (wP D cI cJ [(x, .inr (1, [.ref s0, .ref s1, .ref s2, .ref s3, .ref s4, .ref s5, .ref s6, .long tape, .long turn])), (s5, .inr (0, [.ref kap, .ref vap, .int (nI np)])), (kap, .inl (cJ, 752, .inr (.inl Kp))), (vap, .inl (cJ, 752, .inr (.inl Vp))), (s6, .inr (0, [.ref ka, .ref va, .int (nI n)])), (ka, .inl (cJ, 752, .inr (.inl K))), (va, .inl (cJ, 752, .inr (.inl V)))] sz)) (va_Qi (fun r (u : Nat × Nat × Nat × Nat × (Nat → Int64) × (Nat → Int64) × Nat × Nat × Nat × Nat × (Nat → Int64) × (Nat → Int64)) => match u with | (q5, kq5, vq5, n5, K5, V5, q6, kq6, vq6, n6, K6, V6) => n6 ≤ 752 ∧ ((60 < np ∧ r = (-1) ∧ n5 = np ∧ K5 = Kp) ∨ (np ≤ 60 ∧ ∃ n1 K1 V1, TAL (n1, K1, V1) (allE Kp np) ∧ n5 = (cmpF (fun k v => pB (v = 3 ∨ (v = 2 ∧ ∃ j, j < np ∧ Kp j = k))) K1 V1 n1).1 ∧ K5 = (cmpF (fun k v => pB (v = 3 ∨ (v = 2 ∧ ∃ j, j < np ∧ Kp j = k))) K1 V1 n1).2.1 ∧ r = nI n5))) (wB D cI cJ (va_A [(x, .inr (1, [.ref s0, .ref s1, .ref s2, .ref s3, .ref s4, .ref s5, .ref s6, .long tape, .long turn])), (s5, .inr (0, [.ref kap, .ref vap, .int (nI np)])), (kap, .inl (cJ, 752, .inr (.inl Kp))), (vap, .inl (cJ, 752, .inr (.inl Vp))), (s6, .inr (0, [.ref ka, .ref va, .int (nI n)])), (ka, .inl (cJ, 752, .inr (.inl K))), (va, .inl (cJ, 752, .inr (.inl V)))] sz) (fun (q5, kq5, vq5, n5, K5, V5, q6, kq6, vq6, n6, K6, V6) => [(x, .inr (1, [.ref s0, .ref s1, .ref s2, .ref s3, .ref s4, .ref q5, .ref q6, .long tape, .long turn])), (q5, .inr (0, [.ref kq5, .ref vq5, .int (nI n5)])), (kq5, .inl (cJ, 752, .inr (.inl K5))), (vq5, .inl (cJ, 752, .inr (.inl V5))), (q6, .inr (0, [.ref kq6, .ref vq6, .int (nI n6)])), (kq6, .inl (cJ, 752, .inr (.inl K6))), (vq6, .inl (cJ, 752, .inr (.inl V6)))])) (va_A [(x, .inr (1, [.ref s0, .ref s1, .ref s2, .ref s3, .ref s4, .ref s5, .ref s6, .long tape, .long turn])), (s5, .inr (0, [.ref kap, .ref vap, .int (nI np)])), (kap, .inl (cJ, 752, .inr (.inl Kp))), (vap, .inl (cJ, 752, .inr (.inl Vp))), (s6, .inr (0, [.ref ka, .ref va, .int (nI n)])), (ka, .inl (cJ, 752, .inr (.inl K))), (va, .inl (cJ, 752, .inr (.inl V)))] sz)) 0 0 (va_A [(x, .inr (1, [.ref s0, .ref s1, .ref s2, .ref s3, .ref s4, .ref s5, .ref s6, .long tape, .long turn])), (s5, .inr (0, [.ref kap, .ref vap, .int (nI np)])), (kap, .inl (cJ, 752, .inr (.inl Kp))), (vap, .inl (cJ, 752, .inr (.inl Vp))), (s6, .inr (0, [.ref ka, .ref va, .int (nI n)])), (ka, .inl (cJ, 752, .inr (.inl K))), (va, .inl (cJ, 752, .inr (.inl V)))] sz) := by
  refine Met.ofW (cc := cX1_step) (maxL := 3) (ret := (some .int)) (by decide) rfl ?_
  intro p e s m args below meth c s₁ B hml hv
  obtain ⟨rfl, hsz, hP, hK, hD0⟩ := hv
  have hx := B.exec
  have hb := B.bytes
  have hr := B.returns
  have hts := atoms_spec (ws := wsX1_step) B.pre
  have hown : s.vm.findClass RX1 = some m.cls := findClass_of_methodNamed B.named
  have hlocks := B.notSynchronized
  have lk0 := hts (.fieldLink RX1 30 "KeyHall" "points" "LKeyHall$Sorted;") (by decide +kernel)
  have lk1 : ∀ w ∈ wsX10, w ∈ wsX1_step := by decide +kernel
  have lk2 := hts (.fieldLink RX1 33 "KeyHall" "tally" "LKeyHall$Sorted;") (by decide +kernel)
  subst hsz
  have hD := hD0.self (sz := s.heap.size)
  generalize hAe : va_A [(x, .inr (1, [.ref s0, .ref s1, .ref s2, .ref s3, .ref s4, .ref s5, .ref s6, .long tape, .long turn])), (s5, .inr (0, [.ref kap, .ref vap, .int (nI np)])), (kap, .inl (cJ, 752, .inr (.inl Kp))), (vap, .inl (cJ, 752, .inr (.inl Vp))), (s6, .inr (0, [.ref ka, .ref va, .int (nI n)])), (ka, .inl (cJ, 752, .inr (.inl K))), (va, .inl (cJ, 752, .inr (.inl V)))] s.heap.size = A at hD ⊢
  have hA : ∀ q : Nat, s.heap.size ≤ q → A q := fun q h => by rw [← hAe]; exact Or.inr h
  have hS : va_S A s.heap s.heap [] := va_S.rf
  have hP : va_P D vwCl [(x, .inr (1, [.ref s0, .ref s1, .ref s2, .ref s3, .ref s4, .ref s5, .ref s6, .long tape, .long turn])), (s5, .inr (0, [.ref kap, .ref vap, .int (nI np)])), (kap, .inl (cJ, 752, .inr (.inl Kp))), (vap, .inl (cJ, 752, .inr (.inl Vp))), (s6, .inr (0, [.ref ka, .ref va, .int (nI n)])), (ka, .inl (cJ, 752, .inr (.inl K))), (va, .inl (cJ, 752, .inr (.inl V)))] s.heap := hP
  have hl := lv_entry ([.ref x]) (n := 3) (Nat.le_of_ble_eq_true rfl)
  rw [lg_entry_eq]
  generalize (lg_sl ([.ref x]) ++ List.replicate (3 - (lg_sl ([.ref x])).length) Slot.unset).toArray = ls at hl ⊢
  have hl : lv_has ls 3 [(0, .ref x)] := hl
  refine lv_aload_n hx hb dX1_step_0 rfl (lv_at hl 0 rfl) ?_
  refine va_get (D := D) (ci := 1) (v := .ref s5) (C := RX1) (T := TX1) (N := 9) hx hb hts lk1 hown hK hP 0 rfl rfl 5 (by decide) lk0 (fun _ h9 => h9) rfl dX1_step_1 ?_
  refine vp_callSi (va_Run.run (va_runV (As := []) (rest := []) ⟨hx, hb, hml, hown, hts⟩ (c_X0_held l D cI cJ s5 kap vap 752 np Kp Vp  ) (cwV 0 hts gX1_step_X0_held rfl rfl rfl (by decide +kernel) ⟨Nat.le_of_ble_eq_true rfl, Nat.le_of_ble_eq_true rfl⟩) (z_preV hK hP [1, 2, 3] rfl 0 1 rfl rfl) rfl rfl hl.1 rfl (lv_room (Nat.le_of_ble_eq_true rfl)) dX1_step_4 ⟨Nat.zero_le _, Nat.zero_le _⟩)) (fun r_1 hr_1 => ?_)
  replace hr_1 := hr_1.symm
  subst hr_1
  refine lv_bipush (v := nI 60) hx hb dX1_step_7 (by decide) ?_
  refine z_icmp_le (tgt := 14) hx hb dX1_step_9 (by decide) (by omega) (by omega) (fun c_9 => ?_) (fun c_9 => ?_)
  · refine lv_aload_n hx hb dX1_step_14 rfl (lv_at hl 0 rfl) ?_
    have hFc := va_free (wc := [(x, .inr (1, [.ref s0, .ref s1, .ref s2, .ref s3, .ref s4, .ref s5, .ref s6, .long tape, .long turn])), (s5, .inr (0, [.ref kap, .ref vap, .int (nI np)])), (kap, .inl (cJ, 752, .inr (.inl Kp))), (vap, .inl (cJ, 752, .inr (.inl Vp))), (s6, .inr (0, [.ref ka, .ref va, .int (nI n)])), (ka, .inl (cJ, 752, .inr (.inl K))), (va, .inl (cJ, 752, .inr (.inl V)))]) hD hS hA [0, 1, 2, 3, 4, 5, 6] rfl
    refine va_callv (va_runV (As := []) (rest := []) ⟨hx, hb, hml, hown, hts⟩ (c_X1_tallyAllAround l D cI cJ x s0 s1 s2 s3 s4 s5 s6 tape turn kap vap np Kp Vp (by omega) ka va n K V (by omega) (by omega) s.heap.size) (cwV 0 hts gX1_step_X1_tallyAllAround rfl rfl rfl (by decide +kernel) ⟨Nat.le_of_ble_eq_true rfl, Nat.le_of_ble_eq_true rfl⟩) (z_preVw hK hP hD [0, 1, 2, 3, 4, 5, 6] (by decide) rfl rfl 1 0 rfl rfl) rfl rfl hl.1 rfl (lv_room (Nat.le_of_ble_eq_true rfl)) dX1_step_15 ⟨Nat.zero_le _, Nat.zero_le _⟩) hS (fun q _ h => hFc q h) hFc (fun u_3 t H1 locs ht hvm hr_2 hB hzz1 hkk1 hS => ?_)
    obtain ⟨n4, K4, V4⟩ := u_3
    obtain ⟨hP1, hK1, hD1⟩ := hB
    rw [ht] at hP1
    try dsimp only at hr_2
    obtain ⟨hP, hD⟩ := va_join (wr := []) (w1 := [(x, .inr (1, [.ref s0, .ref s1, .ref s2, .ref s3, .ref s4, .ref s5, .ref s6, .long tape, .long turn])), (s5, .inr (0, [.ref kap, .ref vap, .int (nI np)])), (kap, .inl (cJ, 752, .inr (.inl Kp))), (vap, .inl (cJ, 752, .inr (.inl Vp))), (s6, .inr (0, [.ref ka, .ref va, .int (nI n4)])), (ka, .inl (cJ, 752, .inr (.inl K4))), (va, .inl (cJ, 752, .inr (.inl V4)))]) hP hD [0, 1, 2, 3, 4, 5, 6] [] rfl rfl (by decide) (by decide) hkk1 hFc hP1 hD1
    generalize H1 = H at hP hS ⊢
    have hP : va_P D vwCl [(x, .inr (1, [.ref s0, .ref s1, .ref s2, .ref s3, .ref s4, .ref s5, .ref s6, .long tape, .long turn])), (s5, .inr (0, [.ref kap, .ref vap, .int (nI np)])), (kap, .inl (cJ, 752, .inr (.inl Kp))), (vap, .inl (cJ, 752, .inr (.inl Vp))), (s6, .inr (0, [.ref ka, .ref va, .int (nI n4)])), (ka, .inl (cJ, 752, .inr (.inl K4))), (va, .inl (cJ, 752, .inr (.inl V4)))] H := hP.sub [0, 1, 2, 3, 4, 5, 6] rfl
    have hD : va_D A [(x, .inr (1, [.ref s0, .ref s1, .ref s2, .ref s3, .ref s4, .ref s5, .ref s6, .long tape, .long turn])), (s5, .inr (0, [.ref kap, .ref vap, .int (nI np)])), (kap, .inl (cJ, 752, .inr (.inl Kp))), (vap, .inl (cJ, 752, .inr (.inl Vp))), (s6, .inr (0, [.ref ka, .ref va, .int (nI n4)])), (ka, .inl (cJ, 752, .inr (.inl K4))), (va, .inl (cJ, 752, .inr (.inl V4)))] := hD.sub [0, 1, 2, 3, 4, 5, 6] (by decide) rfl
    have hT := hr_2
    have hal := allE_le Kp np
    have hTn : n4 ≤ (allE Kp np).length := hT.2.2.2
    refine lv_iconst (v := nI 0) hx hb dX1_step_18 (by decide) ?_
    refine lv_istore_n (lv' := [(1, .int (nI 0)), (0, .ref x)]) hx hb dX1_step_19 rfl hl (by decide) rfl (fun ls hl => ?_)
    refine lv_iconst (v := nI 0) hx hb dX1_step_20 (by decide) ?_
    refine lv_istore_n (lv' := [(2, .int (nI 0)), (1, .int (nI 0)), (0, .ref x)]) hx hb dX1_step_21 rfl hl (by decide) rfl (fun ls hl => ?_)
    refine z_loopw (σ := Nat) (fun i => n4 - i) (fun i H locs ls => va_P D vwCl [(x, .inr (1, [.ref s0, .ref s1, .ref s2, .ref s3, .ref s4, .ref s5, .ref s6, .long tape, .long turn])), (s5, .inr (0, [.ref kap, .ref vap, .int (nI np)])), (kap, .inl (cJ, 752, .inr (.inl Kp))), (vap, .inl (cJ, 752, .inr (.inl Vp))), (s6, .inr (0, [.ref ka, .ref va, .int (nI n4)])), (ka, .inl (cJ, 752, .inr (.inl ((cmpF (fun k v => pB (v = 3 ∨ (v = 2 ∧ ∃ j, j < np ∧ Kp j = k))) K4 V4 i).2.1)))), (va, .inl (cJ, 752, .inr (.inl ((cmpF (fun k v => pB (v = 3 ∨ (v = 2 ∧ ∃ j, j < np ∧ Kp j = k))) K4 V4 i).2.2))))] H ∧ va_D A [(x, .inr (1, [.ref s0, .ref s1, .ref s2, .ref s3, .ref s4, .ref s5, .ref s6, .long tape, .long turn])), (s5, .inr (0, [.ref kap, .ref vap, .int (nI np)])), (kap, .inl (cJ, 752, .inr (.inl Kp))), (vap, .inl (cJ, 752, .inr (.inl Vp))), (s6, .inr (0, [.ref ka, .ref va, .int (nI n4)])), (ka, .inl (cJ, 752, .inr (.inl ((cmpF (fun k v => pB (v = 3 ∨ (v = 2 ∧ ∃ j, j < np ∧ Kp j = k))) K4 V4 i).2.1)))), (va, .inl (cJ, 752, .inr (.inl ((cmpF (fun k v => pB (v = 3 ∨ (v = 2 ∧ ∃ j, j < np ∧ Kp j = k))) K4 V4 i).2.2))))] ∧ va_S A s.heap H locs ∧ lv_has ls 3 [(0, .ref x), (1, .int (nI ((cmpF (fun k v => pB (v = 3 ∨ (v = 2 ∧ ∃ j, j < np ∧ Kp j = k))) K4 V4 i).1))), (2, .int (nI i))] ∧ (i ≤ n4)) ?_ (0) _ _ _ ⟨hP, hD, hS, lv_sub hl [2, 1, 0] rfl, Nat.zero_le _⟩
    rintro i H locs ls ⟨hP, hD, hS, hl, hi⟩ ih
    have hP : va_P D vwCl [(x, .inr (1, [.ref s0, .ref s1, .ref s2, .ref s3, .ref s4, .ref s5, .ref s6, .long tape, .long turn])), (s5, .inr (0, [.ref kap, .ref vap, .int (nI np)])), (kap, .inl (cJ, 752, .inr (.inl Kp))), (vap, .inl (cJ, 752, .inr (.inl Vp))), (s6, .inr (0, [.ref ka, .ref va, .int (nI n4)])), (ka, .inl (cJ, 752, .inr (.inl ((cmpF (fun k v => pB (v = 3 ∨ (v = 2 ∧ ∃ j, j < np ∧ Kp j = k))) K4 V4 i).2.1)))), (va, .inl (cJ, 752, .inr (.inl ((cmpF (fun k v => pB (v = 3 ∨ (v = 2 ∧ ∃ j, j < np ∧ Kp j = k))) K4 V4 i).2.2))))] H := hP
    have hl : lv_has ls 3 [(0, .ref x), (1, .int (nI ((cmpF (fun k v => pB (v = 3 ∨ (v = 2 ∧ ∃ j, j < np ∧ Kp j = k))) K4 V4 i).1))), (2, .int (nI i))] := hl
    have hcl := cmpF_le (fun k v => pB (v = 3 ∨ (v = 2 ∧ ∃ j, j < np ∧ Kp j = k))) K4 V4 i
    refine lv_iload_n hx hb dX1_step_22 rfl (lv_at hl 2 rfl) ?_
    refine lv_aload_n hx hb dX1_step_23 rfl (lv_at hl 0 rfl) ?_
    refine va_get (D := D) (ci := 1) (v := .ref s6) (C := RX1) (T := TX1) (N := 9) hx hb hts lk1 hown hK hP 0 rfl rfl 6 (by decide) lk2 (fun _ h9 => h9) rfl dX1_step_24 ?_
    refine vp_callSi (va_Run.run (va_runV (As := []) (rest := [.int (nI i)]) ⟨hx, hb, hml, hown, hts⟩ (c_X0_held l D cI cJ s6 ka va 752 n4 ((cmpF (fun k v => pB (v = 3 ∨ (v = 2 ∧ ∃ j, j < np ∧ Kp j = k))) K4 V4 i).2.1) ((cmpF (fun k v => pB (v = 3 ∨ (v = 2 ∧ ∃ j, j < np ∧ Kp j = k))) K4 V4 i).2.2)  ) (cwV 0 hts gX1_step_X0_held rfl rfl rfl (by decide +kernel) ⟨Nat.le_of_ble_eq_true rfl, Nat.le_of_ble_eq_true rfl⟩) (z_preV hK hP [4, 5, 6] rfl 0 4 rfl rfl) rfl rfl hl.1 rfl (lv_room (Nat.le_of_ble_eq_true rfl)) dX1_step_27 ⟨Nat.zero_le _, Nat.zero_le _⟩)) (fun r_5 hr_5 => ?_)
    replace hr_5 := hr_5.symm
    subst hr_5
    refine z_icmp_ge (tgt := 74) hx hb dX1_step_30 (by decide) (by omega) (by omega) (fun c_30 => ?_) (fun c_30 => ?_)
    · have hin : i = n4 := Nat.le_antisymm hi c_30
      rw [hin] at hP hD hl hcl
      refine lv_aload_n hx hb dX1_step_74 rfl (lv_at hl 0 rfl) ?_
      refine va_get (D := D) (ci := 1) (v := .ref s6) (C := RX1) (T := TX1) (N := 9) hx hb hts lk1 hown hK hP 0 rfl rfl 6 (by decide) lk2 (fun _ h9 => h9) rfl dX1_step_75 ?_
      refine lv_iload_n hx hb dX1_step_78 rfl (lv_at hl 1 rfl) ?_
      have hFc := va_free (wc := [(s6, .inr (0, [.ref ka, .ref va, .int (nI n4)])), (ka, .inl (cJ, 752, .inr (.inl ((cmpF (fun k v => pB (v = 3 ∨ (v = 2 ∧ ∃ j, j < np ∧ Kp j = k))) K4 V4 n4).2.1)))), (va, .inl (cJ, 752, .inr (.inl ((cmpF (fun k v => pB (v = 3 ∨ (v = 2 ∧ ∃ j, j < np ∧ Kp j = k))) K4 V4 n4).2.2))))]) hD hS hA [4, 5, 6] rfl
      refine va_callv (va_runV (As := [.int (nI ((cmpF (fun k v => pB (v = 3 ∨ (v = 2 ∧ ∃ j, j < np ∧ Kp j = k))) K4 V4 n4).1))]) (rest := []) ⟨hx, hb, hml, hown, hts⟩ (c_X0_shorten l D cI cJ s6 ka va 752 n4 ((cmpF (fun k v => pB (v = 3 ∨ (v = 2 ∧ ∃ j, j < np ∧ Kp j = k))) K4 V4 n4).2.1) ((cmpF (fun k v => pB (v = 3 ∨ (v = 2 ∧ ∃ j, j < np ∧ Kp j = k))) K4 V4 n4).2.2) ((cmpF (fun k v => pB (v = 3 ∨ (v = 2 ∧ ∃ j, j < np ∧ Kp j = k))) K4 V4 n4).1) (by omega) (by omega) (by omega) H.size) (cwV 1 hts gX1_step_X0_shorten rfl rfl rfl (by decide +kernel) ⟨Nat.le_of_ble_eq_true rfl, Nat.le_of_ble_eq_true rfl⟩) (z_preVw hK hP hD [4, 5, 6] (by decide) rfl rfl 0 4 rfl rfl) rfl rfl hl.1 rfl (lv_room (Nat.le_of_ble_eq_true rfl)) dX1_step_79 ⟨Nat.zero_le _, Nat.zero_le _⟩) hS (fun q _ h => hFc q h) hFc (fun u_6 t H1 locs ht hvm hr_7 hB hzz1 hkk1 hS => ?_)
      obtain ⟨n8, K8, V8⟩ := u_6
      obtain ⟨hP1, hK1, hD1⟩ := hB
      rw [ht] at hP1
      try dsimp only at hr_7
      obtain ⟨hP, hD⟩ := va_join (wr := [(x, .inr (1, [.ref s0, .ref s1, .ref s2, .ref s3, .ref s4, .ref s5, .ref s6, .long tape, .long turn])), (s5, .inr (0, [.ref kap, .ref vap, .int (nI np)])), (kap, .inl (cJ, 752, .inr (.inl Kp))), (vap, .inl (cJ, 752, .inr (.inl Vp)))]) (w1 := [(s6, .inr (0, [.ref ka, .ref va, .int (nI n8)])), (ka, .inl (cJ, 752, .inr (.inl K8))), (va, .inl (cJ, 752, .inr (.inl V8)))]) hP hD [4, 5, 6] [0, 1, 2, 3] rfl rfl (by decide) (by decide) hkk1 hFc hP1 hD1
      generalize H1 = H at hP hS ⊢
      have hP : va_P D vwCl [(x, .inr (1, [.ref s0, .ref s1, .ref s2, .ref s3, .ref s4, .ref s5, .ref s6, .long tape, .long turn])), (s5, .inr (0, [.ref kap, .ref vap, .int (nI np)])), (kap, .inl (cJ, 752, .inr (.inl Kp))), (vap, .inl (cJ, 752, .inr (.inl Vp))), (s6, .inr (0, [.ref ka, .ref va, .int (nI n8)])), (ka, .inl (cJ, 752, .inr (.inl K8))), (va, .inl (cJ, 752, .inr (.inl V8)))] H := hP.sub [0, 1, 2, 3, 4, 5, 6] rfl
      have hD : va_D A [(x, .inr (1, [.ref s0, .ref s1, .ref s2, .ref s3, .ref s4, .ref s5, .ref s6, .long tape, .long turn])), (s5, .inr (0, [.ref kap, .ref vap, .int (nI np)])), (kap, .inl (cJ, 752, .inr (.inl Kp))), (vap, .inl (cJ, 752, .inr (.inl Vp))), (s6, .inr (0, [.ref ka, .ref va, .int (nI n8)])), (ka, .inl (cJ, 752, .inr (.inl K8))), (va, .inl (cJ, 752, .inr (.inl V8)))] := hD.sub [0, 1, 2, 3, 4, 5, 6] (by decide) rfl
      obtain ⟨rfl, rfl, rfl⟩ : (cmpF (fun k v => pB (v = 3 ∨ (v = 2 ∧ ∃ j, j < np ∧ Kp j = k))) K4 V4 n4).1 = n8 ∧ (cmpF (fun k v => pB (v = 3 ∨ (v = 2 ∧ ∃ j, j < np ∧ Kp j = k))) K4 V4 n4).2.1 = K8 ∧ (cmpF (fun k v => pB (v = 3 ∨ (v = 2 ∧ ∃ j, j < np ∧ Kp j = k))) K4 V4 n4).2.2 = V8 := by injection hr_7 with a1 a2; injection a2 with a2 a3; exact ⟨a1.symm, a2.symm, a3.symm⟩
      refine lv_aload_n hx hb dX1_step_82 rfl (lv_at hl 0 rfl) ?_
      refine va_get (D := D) (ci := 1) (v := .ref s5) (C := RX1) (T := TX1) (N := 9) hx hb hts lk1 hown hK hP 0 rfl rfl 5 (by decide) lk0 (fun _ h9 => h9) rfl dX1_step_83 ?_
      refine lv_astore_n (lv' := [(2, .ref s5), (0, .ref x), (1, .int (nI ((cmpF (fun k v => pB (v = 3 ∨ (v = 2 ∧ ∃ j, j < np ∧ Kp j = k))) K4 V4 n4).1)))]) hx hb dX1_step_86 rfl hl (by decide) rfl (fun ls hl => ?_)
      refine lv_aload_n hx hb dX1_step_87 rfl (lv_at hl 1 rfl) ?_
      refine lv_aload_n hx hb dX1_step_88 rfl (lv_at hl 1 rfl) ?_
      refine va_get (D := D) (ci := 1) (v := .ref s6) (C := RX1) (T := TX1) (N := 9) hx hb hts lk1 hown hK hP 0 rfl rfl 6 (by decide) lk2 (fun _ h9 => h9) rfl dX1_step_89 ?_
      refine va_put (D := D) (ci := 1) (v := .ref s6) (ty := .object "KeyHall$Sorted") (C := RX1) (T := TX1) (N := 9) hx hb hts lk1 tyX1 tyX1_ok nmX1 hown hK hP hD hS 0 rfl rfl 5 (by decide) lk0 (fun _ h9 => h9) rfl (by decide +kernel) rfl rfl (Nat.le_of_ble_eq_true rfl) dX1_step_92 (fun H locs hP hD hS => ?_)
      have hP : va_P D vwCl [(x, .inr (1, [.ref s0, .ref s1, .ref s2, .ref s3, .ref s4, .ref s6, .ref s6, .long tape, .long turn])), (s5, .inr (0, [.ref kap, .ref vap, .int (nI np)])), (kap, .inl (cJ, 752, .inr (.inl Kp))), (vap, .inl (cJ, 752, .inr (.inl Vp))), (s6, .inr (0, [.ref ka, .ref va, .int (nI ((cmpF (fun k v => pB (v = 3 ∨ (v = 2 ∧ ∃ j, j < np ∧ Kp j = k))) K4 V4 n4).1))])), (ka, .inl (cJ, 752, .inr (.inl ((cmpF (fun k v => pB (v = 3 ∨ (v = 2 ∧ ∃ j, j < np ∧ Kp j = k))) K4 V4 n4).2.1)))), (va, .inl (cJ, 752, .inr (.inl ((cmpF (fun k v => pB (v = 3 ∨ (v = 2 ∧ ∃ j, j < np ∧ Kp j = k))) K4 V4 n4).2.2))))] H := hP
      have hD : va_D A [(x, .inr (1, [.ref s0, .ref s1, .ref s2, .ref s3, .ref s4, .ref s6, .ref s6, .long tape, .long turn])), (s5, .inr (0, [.ref kap, .ref vap, .int (nI np)])), (kap, .inl (cJ, 752, .inr (.inl Kp))), (vap, .inl (cJ, 752, .inr (.inl Vp))), (s6, .inr (0, [.ref ka, .ref va, .int (nI ((cmpF (fun k v => pB (v = 3 ∨ (v = 2 ∧ ∃ j, j < np ∧ Kp j = k))) K4 V4 n4).1))])), (ka, .inl (cJ, 752, .inr (.inl ((cmpF (fun k v => pB (v = 3 ∨ (v = 2 ∧ ∃ j, j < np ∧ Kp j = k))) K4 V4 n4).2.1)))), (va, .inl (cJ, 752, .inr (.inl ((cmpF (fun k v => pB (v = 3 ∨ (v = 2 ∧ ∃ j, j < np ∧ Kp j = k))) K4 V4 n4).2.2))))] := hD
      refine lv_aload_n hx hb dX1_step_95 rfl (lv_at hl 1 rfl) ?_
      refine lv_aload_n hx hb dX1_step_96 rfl (lv_at hl 0 rfl) ?_
      refine va_put (D := D) (ci := 1) (v := .ref s5) (ty := .object "KeyHall$Sorted") (C := RX1) (T := TX1) (N := 9) hx hb hts lk1 tyX1 tyX1_ok nmX1 hown hK hP hD hS 0 rfl rfl 6 (by decide) lk2 (fun _ h9 => h9) rfl (by decide +kernel) rfl rfl (Nat.le_of_ble_eq_true rfl) dX1_step_97 (fun H locs hP hD hS => ?_)
      have hP : va_P D vwCl [(x, .inr (1, [.ref s0, .ref s1, .ref s2, .ref s3, .ref s4, .ref s6, .ref s5, .long tape, .long turn])), (s5, .inr (0, [.ref kap, .ref vap, .int (nI np)])), (kap, .inl (cJ, 752, .inr (.inl Kp))), (vap, .inl (cJ, 752, .inr (.inl Vp))), (s6, .inr (0, [.ref ka, .ref va, .int (nI ((cmpF (fun k v => pB (v = 3 ∨ (v = 2 ∧ ∃ j, j < np ∧ Kp j = k))) K4 V4 n4).1))])), (ka, .inl (cJ, 752, .inr (.inl ((cmpF (fun k v => pB (v = 3 ∨ (v = 2 ∧ ∃ j, j < np ∧ Kp j = k))) K4 V4 n4).2.1)))), (va, .inl (cJ, 752, .inr (.inl ((cmpF (fun k v => pB (v = 3 ∨ (v = 2 ∧ ∃ j, j < np ∧ Kp j = k))) K4 V4 n4).2.2))))] H := hP
      have hD : va_D A [(x, .inr (1, [.ref s0, .ref s1, .ref s2, .ref s3, .ref s4, .ref s6, .ref s5, .long tape, .long turn])), (s5, .inr (0, [.ref kap, .ref vap, .int (nI np)])), (kap, .inl (cJ, 752, .inr (.inl Kp))), (vap, .inl (cJ, 752, .inr (.inl Vp))), (s6, .inr (0, [.ref ka, .ref va, .int (nI ((cmpF (fun k v => pB (v = 3 ∨ (v = 2 ∧ ∃ j, j < np ∧ Kp j = k))) K4 V4 n4).1))])), (ka, .inl (cJ, 752, .inr (.inl ((cmpF (fun k v => pB (v = 3 ∨ (v = 2 ∧ ∃ j, j < np ∧ Kp j = k))) K4 V4 n4).2.1)))), (va, .inl (cJ, 752, .inr (.inl ((cmpF (fun k v => pB (v = 3 ∨ (v = 2 ∧ ∃ j, j < np ∧ Kp j = k))) K4 V4 n4).2.2))))] := hD
      refine lv_aload_n hx hb dX1_step_100 rfl (lv_at hl 1 rfl) ?_
      refine va_get (D := D) (ci := 1) (v := .ref s6) (C := RX1) (T := TX1) (N := 9) hx hb hts lk1 hown hK hP 0 rfl rfl 5 (by decide) lk0 (fun _ h9 => h9) rfl dX1_step_101 ?_
      refine vp_callSi (va_Run.run (va_runV (As := []) (rest := []) ⟨hx, hb, hml, hown, hts⟩ (c_X0_held l D cI cJ s6 ka va 752 ((cmpF (fun k v => pB (v = 3 ∨ (v = 2 ∧ ∃ j, j < np ∧ Kp j = k))) K4 V4 n4).1) ((cmpF (fun k v => pB (v = 3 ∨ (v = 2 ∧ ∃ j, j < np ∧ Kp j = k))) K4 V4 n4).2.1) ((cmpF (fun k v => pB (v = 3 ∨ (v = 2 ∧ ∃ j, j < np ∧ Kp j = k))) K4 V4 n4).2.2)  ) (cwV 0 hts gX1_step_X0_held rfl rfl rfl (by decide +kernel) ⟨Nat.le_of_ble_eq_true rfl, Nat.le_of_ble_eq_true rfl⟩) (z_preV hK hP [4, 5, 6] rfl 0 4 rfl rfl) rfl rfl hl.1 rfl (lv_room (Nat.le_of_ble_eq_true rfl)) dX1_step_104 ⟨Nat.zero_le _, Nat.zero_le _⟩)) (fun r_9 hr_9 => ?_)
      replace hr_9 := hr_9.symm
      subst hr_9
      exact W.iret (v := nI ((cmpF (fun k v => pB (v = 3 ∨ (v = 2 ∧ ∃ j, j < np ∧ Kp j = k))) K4 V4 n4).1)) hx hb hr (fun t ht hW => ⟨⟨nI ((cmpF (fun k v => pB (v = 3 ∨ (v = 2 ∧ ∃ j, j < np ∧ Kp j = k))) K4 V4 n4).1), (s6, ka, va, (cmpF (fun k v => pB (v = 3 ∨ (v = 2 ∧ ∃ j, j < np ∧ Kp j = k))) K4 V4 n4).1, (cmpF (fun k v => pB (v = 3 ∨ (v = 2 ∧ ∃ j, j < np ∧ Kp j = k))) K4 V4 n4).2.1, (cmpF (fun k v => pB (v = 3 ∨ (v = 2 ∧ ∃ j, j < np ∧ Kp j = k))) K4 V4 n4).2.2, s5, kap, vap, np, Kp, Vp), rfl, ⟨hnp, Or.inr ⟨c_9, n4, K4, V4, hT, rfl, rfl, rfl⟩⟩, by rw [ht]; exact (hP.sub [0, 4, 5, 6, 1, 2, 3] rfl), va_K.moved hW.alike hK, (hD.sub [0, 4, 5, 6, 1, 2, 3] (by decide) rfl)⟩, hS.F ht⟩) hS.2.2 dX1_step_107
    · refine lv_aload_n hx hb dX1_step_33 rfl (lv_at hl 0 rfl) ?_
      refine lv_aload_n hx hb dX1_step_34 rfl (lv_at hl 0 rfl) ?_
      refine va_get (D := D) (ci := 1) (v := .ref s6) (C := RX1) (T := TX1) (N := 9) hx hb hts lk1 hown hK hP 0 rfl rfl 6 (by decide) lk2 (fun _ h9 => h9) rfl dX1_step_35 ?_
      refine lv_iload_n hx hb dX1_step_38 rfl (lv_at hl 2 rfl) ?_
      refine vp_callSl (va_Run.run (va_runV (As := [.int (nI i)]) (rest := [.ref x]) ⟨hx, hb, hml, hown, hts⟩ (c_X0_keyAt l D cI cJ s6 ka va 752 n4 ((cmpF (fun k v => pB (v = 3 ∨ (v = 2 ∧ ∃ j, j < np ∧ Kp j = k))) K4 V4 i).2.1) ((cmpF (fun k v => pB (v = 3 ∨ (v = 2 ∧ ∃ j, j < np ∧ Kp j = k))) K4 V4 i).2.2) (nI i) (by omega) (by omega)) (cwV 1 hts gX1_step_X0_keyAt rfl rfl rfl (by decide +kernel) ⟨Nat.le_of_ble_eq_true rfl, Nat.le_of_ble_eq_true rfl⟩) (z_preV hK hP [4, 5, 6] rfl 0 4 rfl rfl) rfl rfl hl.1 rfl (lv_room (Nat.le_of_ble_eq_true rfl)) dX1_step_39 ⟨Nat.zero_le _, Nat.zero_le _⟩)) (fun r_10 hr_10 => ?_)
      replace hr_10 := hr_10.symm
      subst hr_10
      refine z_topl (y := ((cmpF (fun k v => pB (v = 3 ∨ (v = 2 ∧ ∃ j, j < np ∧ Kp j = k))) K4 V4 i).2.1) i) (vAt_N (by omega) (by omega)) ?_
      refine lv_aload_n hx hb dX1_step_42 rfl (lv_at hl 0 rfl) ?_
      refine va_get (D := D) (ci := 1) (v := .ref s6) (C := RX1) (T := TX1) (N := 9) hx hb hts lk1 hown hK hP 0 rfl rfl 6 (by decide) lk2 (fun _ h9 => h9) rfl dX1_step_43 ?_
      refine lv_iload_n hx hb dX1_step_46 rfl (lv_at hl 2 rfl) ?_
      refine vp_callSl (va_Run.run (va_runV (As := [.int (nI i)]) (rest := [.long (((cmpF (fun k v => pB (v = 3 ∨ (v = 2 ∧ ∃ j, j < np ∧ Kp j = k))) K4 V4 i).2.1) i), .ref x]) ⟨hx, hb, hml, hown, hts⟩ (c_X0_valueAt l D cI cJ s6 ka va 752 n4 ((cmpF (fun k v => pB (v = 3 ∨ (v = 2 ∧ ∃ j, j < np ∧ Kp j = k))) K4 V4 i).2.1) ((cmpF (fun k v => pB (v = 3 ∨ (v = 2 ∧ ∃ j, j < np ∧ Kp j = k))) K4 V4 i).2.2) (nI i) (by omega) (by omega)) (cwV 1 hts gX1_step_X0_valueAt rfl rfl rfl (by decide +kernel) ⟨Nat.le_of_ble_eq_true rfl, Nat.le_of_ble_eq_true rfl⟩) (z_preV hK hP [4, 5, 6] rfl 0 4 rfl rfl) rfl rfl hl.1 rfl (lv_room (Nat.le_of_ble_eq_true rfl)) dX1_step_47 ⟨Nat.zero_le _, Nat.zero_le _⟩)) (fun r_11 hr_11 => ?_)
      replace hr_11 := hr_11.symm
      subst hr_11
      refine z_topl (y := ((cmpF (fun k v => pB (v = 3 ∨ (v = 2 ∧ ∃ j, j < np ∧ Kp j = k))) K4 V4 i).2.2) i) (vAt_N (by omega) (by omega)) ?_
      refine vp_callSi (va_Run.run (va_runV (As := [.long (((cmpF (fun k v => pB (v = 3 ∨ (v = 2 ∧ ∃ j, j < np ∧ Kp j = k))) K4 V4 i).2.1) i), .long (((cmpF (fun k v => pB (v = 3 ∨ (v = 2 ∧ ∃ j, j < np ∧ Kp j = k))) K4 V4 i).2.2) i)]) (rest := []) ⟨hx, hb, hml, hown, hts⟩ (c_X1_isMarkedThen l D cI cJ x s0 s1 s2 s3 s4 s5 s6 tape turn kap vap np Kp Vp (by omega) (by assumption) (((cmpF (fun k v => pB (v = 3 ∨ (v = 2 ∧ ∃ j, j < np ∧ Kp j = k))) K4 V4 i).2.1) i) (((cmpF (fun k v => pB (v = 3 ∨ (v = 2 ∧ ∃ j, j < np ∧ Kp j = k))) K4 V4 i).2.2) i)) (cwV 2 hts gX1_step_X1_isMarkedThen rfl rfl rfl (by decide +kernel) ⟨Nat.le_of_ble_eq_true rfl, Nat.le_of_ble_eq_true rfl⟩) (z_preV hK hP [0, 1, 2, 3] rfl 1 0 rfl rfl) rfl rfl hl.1 rfl (lv_room (Nat.le_of_ble_eq_true rfl)) dX1_step_50 ⟨Nat.zero_le _, Nat.zero_le _⟩)) (fun r_12 hr_12 => ?_)
      rcases hr_12 with ⟨hmk, rfl⟩ | ⟨hmk, rfl⟩
      · refine lv_if_eq (tgt := 68) hx hb dX1_step_53 (by decide) (fun q => absurd q (by decide)) (fun _ => ?_)
        refine lv_aload_n hx hb dX1_step_56 rfl (lv_at hl 0 rfl) ?_
        refine va_get (D := D) (ci := 1) (v := .ref s6) (C := RX1) (T := TX1) (N := 9) hx hb hts lk1 hown hK hP 0 rfl rfl 6 (by decide) lk2 (fun _ h9 => h9) rfl dX1_step_57 ?_
        refine lv_iload_n hx hb dX1_step_60 rfl (lv_at hl 2 rfl) ?_
        refine lv_iload_n hx hb dX1_step_61 rfl (lv_at hl 1 rfl) ?_
        have hFc := va_free (wc := [(s6, .inr (0, [.ref ka, .ref va, .int (nI n4)])), (ka, .inl (cJ, 752, .inr (.inl ((cmpF (fun k v => pB (v = 3 ∨ (v = 2 ∧ ∃ j, j < np ∧ Kp j = k))) K4 V4 i).2.1)))), (va, .inl (cJ, 752, .inr (.inl ((cmpF (fun k v => pB (v = 3 ∨ (v = 2 ∧ ∃ j, j < np ∧ Kp j = k))) K4 V4 i).2.2))))]) hD hS hA [4, 5, 6] rfl
        refine va_callv (va_runV (As := [.int (nI i), .int (nI ((cmpF (fun k v => pB (v = 3 ∨ (v = 2 ∧ ∃ j, j < np ∧ Kp j = k))) K4 V4 i).1))]) (rest := []) ⟨hx, hb, hml, hown, hts⟩ (c_X0_move l D cI cJ s6 ka va 752 n4 ((cmpF (fun k v => pB (v = 3 ∨ (v = 2 ∧ ∃ j, j < np ∧ Kp j = k))) K4 V4 i).2.1) ((cmpF (fun k v => pB (v = 3 ∨ (v = 2 ∧ ∃ j, j < np ∧ Kp j = k))) K4 V4 i).2.2) i ((cmpF (fun k v => pB (v = 3 ∨ (v = 2 ∧ ∃ j, j < np ∧ Kp j = k))) K4 V4 i).1) (by omega) (by omega) (by omega) (by omega) H.size) (cwV 2 hts gX1_step_X0_move rfl rfl rfl (by decide +kernel) ⟨Nat.le_of_ble_eq_true rfl, Nat.le_of_ble_eq_true rfl⟩) (z_preVw hK hP hD [4, 5, 6] (by decide) rfl rfl 0 4 rfl rfl) rfl rfl hl.1 rfl (lv_room (Nat.le_of_ble_eq_true rfl)) dX1_step_62 ⟨Nat.zero_le _, Nat.zero_le _⟩) hS (fun q _ h => hFc q h) hFc (fun u_13 t H1 locs ht hvm hr_14 hB hzz1 hkk1 hS => ?_)
        obtain ⟨n15, K15, V15⟩ := u_13
        obtain ⟨hP1, hK1, hD1⟩ := hB
        rw [ht] at hP1
        try dsimp only at hr_14
        obtain ⟨hP, hD⟩ := va_join (wr := [(x, .inr (1, [.ref s0, .ref s1, .ref s2, .ref s3, .ref s4, .ref s5, .ref s6, .long tape, .long turn])), (s5, .inr (0, [.ref kap, .ref vap, .int (nI np)])), (kap, .inl (cJ, 752, .inr (.inl Kp))), (vap, .inl (cJ, 752, .inr (.inl Vp)))]) (w1 := [(s6, .inr (0, [.ref ka, .ref va, .int (nI n15)])), (ka, .inl (cJ, 752, .inr (.inl K15))), (va, .inl (cJ, 752, .inr (.inl V15)))]) hP hD [4, 5, 6] [0, 1, 2, 3] rfl rfl (by decide) (by decide) hkk1 hFc hP1 hD1
        generalize H1 = H at hP hS ⊢
        have hP : va_P D vwCl [(x, .inr (1, [.ref s0, .ref s1, .ref s2, .ref s3, .ref s4, .ref s5, .ref s6, .long tape, .long turn])), (s5, .inr (0, [.ref kap, .ref vap, .int (nI np)])), (kap, .inl (cJ, 752, .inr (.inl Kp))), (vap, .inl (cJ, 752, .inr (.inl Vp))), (s6, .inr (0, [.ref ka, .ref va, .int (nI n15)])), (ka, .inl (cJ, 752, .inr (.inl K15))), (va, .inl (cJ, 752, .inr (.inl V15)))] H := hP.sub [0, 1, 2, 3, 4, 5, 6] rfl
        have hD : va_D A [(x, .inr (1, [.ref s0, .ref s1, .ref s2, .ref s3, .ref s4, .ref s5, .ref s6, .long tape, .long turn])), (s5, .inr (0, [.ref kap, .ref vap, .int (nI np)])), (kap, .inl (cJ, 752, .inr (.inl Kp))), (vap, .inl (cJ, 752, .inr (.inl Vp))), (s6, .inr (0, [.ref ka, .ref va, .int (nI n15)])), (ka, .inl (cJ, 752, .inr (.inl K15))), (va, .inl (cJ, 752, .inr (.inl V15)))] := hD.sub [0, 1, 2, 3, 4, 5, 6] (by decide) rfl
        obtain ⟨rfl, rfl, rfl⟩ : n4 = n15 ∧ vp_updL ((cmpF (fun k v => pB (v = 3 ∨ (v = 2 ∧ ∃ j, j < np ∧ Kp j = k))) K4 V4 i).2.1) ((cmpF (fun k v => pB (v = 3 ∨ (v = 2 ∧ ∃ j, j < np ∧ Kp j = k))) K4 V4 i).1) (((cmpF (fun k v => pB (v = 3 ∨ (v = 2 ∧ ∃ j, j < np ∧ Kp j = k))) K4 V4 i).2.1) i) = K15 ∧ vp_updL ((cmpF (fun k v => pB (v = 3 ∨ (v = 2 ∧ ∃ j, j < np ∧ Kp j = k))) K4 V4 i).2.2) ((cmpF (fun k v => pB (v = 3 ∨ (v = 2 ∧ ∃ j, j < np ∧ Kp j = k))) K4 V4 i).1) (((cmpF (fun k v => pB (v = 3 ∨ (v = 2 ∧ ∃ j, j < np ∧ Kp j = k))) K4 V4 i).2.2) i) = V15 := by injection hr_14 with a1 a2; injection a2 with a2 a3; exact ⟨a1.symm, a2.symm, a3.symm⟩
        refine lv_iinc (v := nI ((cmpF (fun k v => pB (v = 3 ∨ (v = 2 ∧ ∃ j, j < np ∧ Kp j = k))) K4 V4 i).1 + 1)) (lv' := [(1, .int (nI ((cmpF (fun k v => pB (v = 3 ∨ (v = 2 ∧ ∃ j, j < np ∧ Kp j = k))) K4 V4 i).1 + 1))), (0, .ref x), (2, .int (nI i))]) hx hb dX1_step_65 hl (k := 1) rfl (nI_add ((cmpF (fun k v => pB (v = 3 ∨ (v = 2 ∧ ∃ j, j < np ∧ Kp j = k))) K4 V4 i).1) 1) (by decide) rfl (fun ls hl => ?_)
        obtain ⟨hc1, hc2, hc3⟩ := cmpF_yes (P := (fun k v => pB (v = 3 ∨ (v = 2 ∧ ∃ j, j < np ∧ Kp j = k)))) (K := K4) (V := V4) (i := i) (pB_t hmk)
        rw [← hc2, ← hc3] at hP hD
        rw [← hc1] at hl
        have hl : lv_has ls 3 [(1, .int (nI ((cmpF (fun k v => pB (v = 3 ∨ (v = 2 ∧ ∃ j, j < np ∧ Kp j = k))) K4 V4 (i + 1)).1))), (0, .ref x), (2, .int (nI i))] := hl
        have hP : va_P D vwCl [(x, .inr (1, [.ref s0, .ref s1, .ref s2, .ref s3, .ref s4, .ref s5, .ref s6, .long tape, .long turn])), (s5, .inr (0, [.ref kap, .ref vap, .int (nI np)])), (kap, .inl (cJ, 752, .inr (.inl Kp))), (vap, .inl (cJ, 752, .inr (.inl Vp))), (s6, .inr (0, [.ref ka, .ref va, .int (nI n4)])), (ka, .inl (cJ, 752, .inr (.inl ((cmpF (fun k v => pB (v = 3 ∨ (v = 2 ∧ ∃ j, j < np ∧ Kp j = k))) K4 V4 (i + 1)).2.1)))), (va, .inl (cJ, 752, .inr (.inl ((cmpF (fun k v => pB (v = 3 ∨ (v = 2 ∧ ∃ j, j < np ∧ Kp j = k))) K4 V4 (i + 1)).2.2))))] H := hP
        have hD : va_D A [(x, .inr (1, [.ref s0, .ref s1, .ref s2, .ref s3, .ref s4, .ref s5, .ref s6, .long tape, .long turn])), (s5, .inr (0, [.ref kap, .ref vap, .int (nI np)])), (kap, .inl (cJ, 752, .inr (.inl Kp))), (vap, .inl (cJ, 752, .inr (.inl Vp))), (s6, .inr (0, [.ref ka, .ref va, .int (nI n4)])), (ka, .inl (cJ, 752, .inr (.inl ((cmpF (fun k v => pB (v = 3 ∨ (v = 2 ∧ ∃ j, j < np ∧ Kp j = k))) K4 V4 (i + 1)).2.1)))), (va, .inl (cJ, 752, .inr (.inl ((cmpF (fun k v => pB (v = 3 ∨ (v = 2 ∧ ∃ j, j < np ∧ Kp j = k))) K4 V4 (i + 1)).2.2))))] := hD
        refine lv_iinc (v := nI (i + 1)) (lv' := [(2, .int (nI (i + 1))), (1, .int (nI ((cmpF (fun k v => pB (v = 3 ∨ (v = 2 ∧ ∃ j, j < np ∧ Kp j = k))) K4 V4 (i + 1)).1))), (0, .ref x)]) hx hb dX1_step_68 hl (k := 2) rfl (nI_add i 1) (by decide) rfl (fun ls hl => ?_)
        refine lv_goto (tgt := 22) hx hb dX1_step_71 (by decide) ?_
        exact ih (i + 1) _ _ _ ⟨hP, hD, hS, lv_sub hl [2, 1, 0] rfl, by omega⟩ (by first | omega | (dsimp only; omega))
      · refine lv_if_eq (tgt := 68) hx hb dX1_step_53 (by decide) (fun _ => ?_) (fun q => absurd (by decide) q)
        have hc := cmpF_no (P := (fun k v => pB (v = 3 ∨ (v = 2 ∧ ∃ j, j < np ∧ Kp j = k)))) (K := K4) (V := V4) (i := i) (pB_f hmk)
        rw [← hc] at hP hD hl
        have hl : lv_has ls 3 [(0, .ref x), (1, .int (nI ((cmpF (fun k v => pB (v = 3 ∨ (v = 2 ∧ ∃ j, j < np ∧ Kp j = k))) K4 V4 (i + 1)).1))), (2, .int (nI i))] := hl
        have hP : va_P D vwCl [(x, .inr (1, [.ref s0, .ref s1, .ref s2, .ref s3, .ref s4, .ref s5, .ref s6, .long tape, .long turn])), (s5, .inr (0, [.ref kap, .ref vap, .int (nI np)])), (kap, .inl (cJ, 752, .inr (.inl Kp))), (vap, .inl (cJ, 752, .inr (.inl Vp))), (s6, .inr (0, [.ref ka, .ref va, .int (nI n4)])), (ka, .inl (cJ, 752, .inr (.inl ((cmpF (fun k v => pB (v = 3 ∨ (v = 2 ∧ ∃ j, j < np ∧ Kp j = k))) K4 V4 (i + 1)).2.1)))), (va, .inl (cJ, 752, .inr (.inl ((cmpF (fun k v => pB (v = 3 ∨ (v = 2 ∧ ∃ j, j < np ∧ Kp j = k))) K4 V4 (i + 1)).2.2))))] H := hP
        have hD : va_D A [(x, .inr (1, [.ref s0, .ref s1, .ref s2, .ref s3, .ref s4, .ref s5, .ref s6, .long tape, .long turn])), (s5, .inr (0, [.ref kap, .ref vap, .int (nI np)])), (kap, .inl (cJ, 752, .inr (.inl Kp))), (vap, .inl (cJ, 752, .inr (.inl Vp))), (s6, .inr (0, [.ref ka, .ref va, .int (nI n4)])), (ka, .inl (cJ, 752, .inr (.inl ((cmpF (fun k v => pB (v = 3 ∨ (v = 2 ∧ ∃ j, j < np ∧ Kp j = k))) K4 V4 (i + 1)).2.1)))), (va, .inl (cJ, 752, .inr (.inl ((cmpF (fun k v => pB (v = 3 ∨ (v = 2 ∧ ∃ j, j < np ∧ Kp j = k))) K4 V4 (i + 1)).2.2))))] := hD
        refine lv_iinc (v := nI (i + 1)) (lv' := [(2, .int (nI (i + 1))), (0, .ref x), (1, .int (nI ((cmpF (fun k v => pB (v = 3 ∨ (v = 2 ∧ ∃ j, j < np ∧ Kp j = k))) K4 V4 (i + 1)).1)))]) hx hb dX1_step_68 hl (k := 2) rfl (nI_add i 1) (by decide) rfl (fun ls hl => ?_)
        refine lv_goto (tgt := 22) hx hb dX1_step_71 (by decide) ?_
        exact ih (i + 1) _ _ _ ⟨hP, hD, hS, lv_sub hl [1, 2, 0] rfl, by omega⟩ (by first | omega | (dsimp only; omega))
  · refine lv_iconst (v := (-1)) hx hb dX1_step_12 (by decide) ?_
    exact W.iret (v := (-1)) hx hb hr (fun t ht hW => ⟨⟨(-1), (s5, kap, vap, np, Kp, Vp, s6, ka, va, n, K, V), rfl, ⟨hn, Or.inl ⟨c_9, rfl, rfl, rfl⟩⟩, by rw [ht]; exact hP, va_K.moved hW.alike hK, hD⟩, hS.F ht⟩) hS.2.2 dX1_step_13

set_option maxHeartbeats 4000000 in
set_option maxRecDepth 100000 in
theorem c_X1_end (l : Launch) (D : va_G) (cI cJ : ClassId) (x s0 s1 s2 s3 s4 s5 s6 : Nat) (tape turn : Int64) (ka va n : Nat) (K V : Nat → Int64) (hn : n ≤ 512) (hs : Srt n K) (r0 : Int32) : Met l yX1_end wsX1_end { frames := 2, cells := 0, slots := 0, locals := 46 } (va_Pc [.ref x, .int r0] (rP D cI cJ [(x, .inr (1, [.ref s0, .ref s1, .ref s2, .ref s3, .ref s4, .ref s5, .ref s6, .long tape, .long turn])), (s4, .inr (0, [.ref ka, .ref va, .int (nI n)])), (ka, .inl (cJ, 512, .inr (.inl K))), (va, .inl (cJ, 512, .inr (.inl V)))])) (vp_Sl (fun r => ∃ b, BU n K (pk r0 2147483647) b ∧ ((b = 0 ∧ r = NO) ∨ (0 < b ∧ fsK (K (b - 1)) ≠ r0 ∧ r = NO) ∨ (0 < b ∧ fsK (K (b - 1)) = r0 ∧ r = (snK (K (b - 1))).toInt64)))) 0 0 (fun _ => False) := by
  refine Met.ofW (cc := cX1_end) (maxL := 3) (ret := (some .long)) (by decide) rfl ?_
  intro p e s m args below meth c s₁ B hml hv
  obtain ⟨rfl, hP, hK⟩ := hv
  have hx := B.exec
  have hb := B.bytes
  have hr := B.returns
  have hts := atoms_spec (ws := wsX1_end) B.pre
  have hown : s.vm.findClass RX1 = some m.cls := findClass_of_methodNamed B.named
  have hlocks := B.notSynchronized
  have lk0 := hts (.fieldLink RX1 27 "KeyHall" "table" "LKeyHall$Sorted;") (by decide +kernel)
  have lk1 : ∀ w ∈ wsX10, w ∈ wsX1_end := by decide +kernel
  have lk2 := hts (.constant RX1 136 (2147483647)) (by decide +kernel)
  have lk3 := hts (.constantLong RX1 94 (4611686018427387904)) (by decide +kernel)
  have hl := lv_entry ([.ref x, .int r0]) (n := 3) (Nat.le_of_ble_eq_true rfl)
  rw [lg_entry_eq]
  generalize (lg_sl ([.ref x, .int r0]) ++ List.replicate (3 - (lg_sl ([.ref x, .int r0])).length) Slot.unset).toArray = ls at hl ⊢
  have hl : lv_has ls 3 [(0, .ref x), (1, .int r0)] := hl
  refine lv_aload_n hx hb dX1_end_0 rfl (lv_at hl 0 rfl) ?_
  refine va_get (D := D) (ci := 1) (v := .ref s4) (C := RX1) (T := TX1) (N := 9) hx hb hts lk1 hown hK hP 0 rfl rfl 4 (by decide) lk0 (fun _ h9 => h9) rfl dX1_end_1 ?_
  refine lv_iload_n hx hb dX1_end_4 rfl (lv_at hl 1 rfl) ?_
  refine lv_ldc hx hb hown lk2 dX1_end_5 ?_
  refine vp_callSl (va_Run.run (va_runS (As := [.int r0, .int 2147483647]) (rest := [.ref s4]) ⟨hx, hb, hml, hown, hts⟩ (c_X1_pairKey l r0 2147483647) (va_cwS 2 hts gX1_end_X1_pairKey rfl rfl rfl (by decide +kernel) ⟨Nat.le_of_ble_eq_true rfl, Nat.le_of_ble_eq_true rfl⟩) z_preT rfl rfl hl.1 rfl (lv_room (Nat.le_of_ble_eq_true rfl)) dX1_end_7 ⟨Nat.zero_le _, Nat.zero_le _⟩)) (fun r_1 hr_1 => ?_)
  replace hr_1 := hr_1.symm
  subst hr_1
  refine vp_callSi (va_Run.run (va_runV (As := [.long (pk r0 2147483647)]) (rest := []) ⟨hx, hb, hml, hown, hts⟩ (c_X0_upTo l D cI cJ s4 ka va 512 n K V (pk r0 2147483647) (by omega) (by omega) (by assumption)) (cwV 1 hts gX1_end_X0_upTo rfl rfl rfl (by decide +kernel) ⟨Nat.le_of_ble_eq_true rfl, Nat.le_of_ble_eq_true rfl⟩) (z_preV hK hP [1, 2, 3] rfl 0 1 rfl rfl) rfl rfl hl.1 rfl (lv_room (Nat.le_of_ble_eq_true rfl)) dX1_end_10 ⟨Nat.zero_le _, Nat.zero_le _⟩)) (fun r_2 hr_2 => ?_)
  obtain ⟨b_3, rfl, hb_3⟩ := hr_2
  have hb_3n := hb_3.1
  refine lv_iconst (v := nI 1) hx hb dX1_end_13 (by decide) ?_
  refine lv_isub hx hb dX1_end_14 ?_
  rcases Nat.eq_zero_or_pos b_3 with hz | hz
  · refine z_topi (y := (-1)) (by rw [hz]; rfl) ?_
    refine lv_istore_n (lv' := [(2, .int (-1)), (0, .ref x), (1, .int r0)]) hx hb dX1_end_15 rfl hl (by decide) rfl (fun ls hl => ?_)
    refine lv_iload_n hx hb dX1_end_16 rfl (lv_at hl 0 rfl) ?_
    refine lv_if_lt (tgt := 35) hx hb dX1_end_17 (by decide) (fun _ => ?_) (fun q => absurd (by decide) q)
    refine lv_ldc2 hx hb hown lk3 dX1_end_35 ?_
    exact W.lret (v := 4611686018427387904) hx hb hr (fun t ht hW => ⟨4611686018427387904, rfl, ⟨b_3, hb_3, Or.inl ⟨hz, rfl⟩⟩, ht⟩) (fun _ h => nomatch h) dX1_end_38
  · refine z_topi (y := nI (b_3 - 1)) (pk_sub hz) ?_
    refine lv_istore_n (lv' := [(2, .int (nI (b_3 - 1))), (0, .ref x), (1, .int r0)]) hx hb dX1_end_15 rfl hl (by decide) rfl (fun ls hl => ?_)
    refine lv_iload_n hx hb dX1_end_16 rfl (lv_at hl 0 rfl) ?_
    refine z_if_lt (tgt := 35) hx hb dX1_end_17 (by decide) (by omega) ?_
    refine lv_aload_n hx hb dX1_end_20 rfl (lv_at hl 1 rfl) ?_
    refine va_get (D := D) (ci := 1) (v := .ref s4) (C := RX1) (T := TX1) (N := 9) hx hb hts lk1 hown hK hP 0 rfl rfl 4 (by decide) lk0 (fun _ h9 => h9) rfl dX1_end_21 ?_
    refine lv_iload_n hx hb dX1_end_24 rfl (lv_at hl 0 rfl) ?_
    refine vp_callSl (va_Run.run (va_runV (As := [.int (nI (b_3 - 1))]) (rest := []) ⟨hx, hb, hml, hown, hts⟩ (c_X0_keyAt l D cI cJ s4 ka va 512 n K V (nI (b_3 - 1)) (by omega) (by omega)) (cwV 1 hts gX1_end_X0_keyAt rfl rfl rfl (by decide +kernel) ⟨Nat.le_of_ble_eq_true rfl, Nat.le_of_ble_eq_true rfl⟩) (z_preV hK hP [1, 2, 3] rfl 0 1 rfl rfl) rfl rfl hl.1 rfl (lv_room (Nat.le_of_ble_eq_true rfl)) dX1_end_25 ⟨Nat.zero_le _, Nat.zero_le _⟩)) (fun r_4 hr_4 => ?_)
    replace hr_4 := hr_4.symm
    subst hr_4
    refine z_topl (y := K (b_3 - 1)) (vAt_N (by omega) (by omega)) ?_
    refine vp_callSi (va_Run.run (va_runS (As := [.long (K (b_3 - 1))]) (rest := []) ⟨hx, hb, hml, hown, hts⟩ (c_X1_firstOf l (K (b_3 - 1))) (va_cwS 1 hts gX1_end_X1_firstOf rfl rfl rfl (by decide +kernel) ⟨Nat.le_of_ble_eq_true rfl, Nat.le_of_ble_eq_true rfl⟩) z_preT rfl rfl hl.1 rfl (lv_room (Nat.le_of_ble_eq_true rfl)) dX1_end_28 ⟨Nat.zero_le _, Nat.zero_le _⟩)) (fun r_5 hr_5 => ?_)
    replace hr_5 := hr_5.symm
    subst hr_5
    refine lv_iload_n hx hb dX1_end_31 rfl (lv_at hl 2 rfl) ?_
    refine lv_icmp_eq (tgt := 39) hx hb dX1_end_32 (by decide) (fun c_32 => ?_) (fun c_32 => ?_)
    · refine lv_aload_n hx hb dX1_end_39 rfl (lv_at hl 1 rfl) ?_
      refine va_get (D := D) (ci := 1) (v := .ref s4) (C := RX1) (T := TX1) (N := 9) hx hb hts lk1 hown hK hP 0 rfl rfl 4 (by decide) lk0 (fun _ h9 => h9) rfl dX1_end_40 ?_
      refine lv_iload_n hx hb dX1_end_43 rfl (lv_at hl 0 rfl) ?_
      refine vp_callSl (va_Run.run (va_runV (As := [.int (nI (b_3 - 1))]) (rest := []) ⟨hx, hb, hml, hown, hts⟩ (c_X0_keyAt l D cI cJ s4 ka va 512 n K V (nI (b_3 - 1)) (by omega) (by omega)) (cwV 1 hts gX1_end_X0_keyAt rfl rfl rfl (by decide +kernel) ⟨Nat.le_of_ble_eq_true rfl, Nat.le_of_ble_eq_true rfl⟩) (z_preV hK hP [1, 2, 3] rfl 0 1 rfl rfl) rfl rfl hl.1 rfl (lv_room (Nat.le_of_ble_eq_true rfl)) dX1_end_44 ⟨Nat.zero_le _, Nat.zero_le _⟩)) (fun r_6 hr_6 => ?_)
      replace hr_6 := hr_6.symm
      subst hr_6
      refine z_topl (y := K (b_3 - 1)) (vAt_N (by omega) (by omega)) ?_
      refine vp_callSi (va_Run.run (va_runS (As := [.long (K (b_3 - 1))]) (rest := []) ⟨hx, hb, hml, hown, hts⟩ (c_X1_secondOf l (K (b_3 - 1))) (va_cwS 1 hts gX1_end_X1_secondOf rfl rfl rfl (by decide +kernel) ⟨Nat.le_of_ble_eq_true rfl, Nat.le_of_ble_eq_true rfl⟩) z_preT rfl rfl hl.1 rfl (lv_room (Nat.le_of_ble_eq_true rfl)) dX1_end_47 ⟨Nat.zero_le _, Nat.zero_le _⟩)) (fun r_7 hr_7 => ?_)
      replace hr_7 := hr_7.symm
      subst hr_7
      refine lv_i2l (v := (snK (K (b_3 - 1))).toInt64) hx hb dX1_end_50 rfl ?_
      exact W.lret (v := (snK (K (b_3 - 1))).toInt64) hx hb hr (fun t ht hW => ⟨(snK (K (b_3 - 1))).toInt64, rfl, ⟨b_3, hb_3, Or.inr (Or.inr ⟨hz, c_32, rfl⟩)⟩, ht⟩) (fun _ h => nomatch h) dX1_end_51
    · refine lv_ldc2 hx hb hown lk3 dX1_end_35 ?_
      exact W.lret (v := 4611686018427387904) hx hb hr (fun t ht hW => ⟨4611686018427387904, rfl, ⟨b_3, hb_3, Or.inr (Or.inl ⟨hz, c_32, rfl⟩)⟩, ht⟩) (fun _ h => nomatch h) dX1_end_38

set_option maxHeartbeats 4000000 in
set_option maxRecDepth 100000 in
theorem c_X1_cut (l : Launch) (D : va_G) (cI cJ : ClassId) (x s0 s1 s2 s3 s4 s5 s6 : Nat) (tape turn : Int64) (ka va n : Nat) (K V : Nat → Int64) (hn : n ≤ 512) (hs : Srt n K) (a b : Int32) (sz : Nat) : Met l yX1_cut wsX1_cut { frames := 3, cells := 0, slots := 0, locals := 71 } (va_Pc [.ref x, .int a, .int b] (wP D cI cJ [(x, .inr (1, [.ref s0, .ref s1, .ref s2, .ref s3, .ref s4, .ref s5, .ref s6, .long tape, .long turn])), (s4, .inr (0, [.ref ka, .ref va, .int (nI n)])), (ka, .inl (cJ, 512, .inr (.inl K))), (va, .inl (cJ, 512, .inr (.inl V)))] sz)) (va_Qi (fun r (u : SS) => (∃ r0, DrR n K V (pk a b) r0 u) ∧ r = nI (grp (fun i => u.2.1 i >>> ((nI 32).toInt64 &&& 63)) u.1)) (wB D cI cJ (va_A [(x, .inr (1, [.ref s0, .ref s1, .ref s2, .ref s3, .ref s4, .ref s5, .ref s6, .long tape, .long turn])), (s4, .inr (0, [.ref ka, .ref va, .int (nI n)])), (ka, .inl (cJ, 512, .inr (.inl K))), (va, .inl (cJ, 512, .inr (.inl V)))] sz) (fun (n', K', V') => [(x, .inr (1, [.ref s0, .ref s1, .ref s2, .ref s3, .ref s4, .ref s5, .ref s6, .long tape, .long turn])), (s4, .inr (0, [.ref ka, .ref va, .int (nI n')])), (ka, .inl (cJ, 512, .inr (.inl K'))), (va, .inl (cJ, 512, .inr (.inl V')))])) (va_A [(x, .inr (1, [.ref s0, .ref s1, .ref s2, .ref s3, .ref s4, .ref s5, .ref s6, .long tape, .long turn])), (s4, .inr (0, [.ref ka, .ref va, .int (nI n)])), (ka, .inl (cJ, 512, .inr (.inl K))), (va, .inl (cJ, 512, .inr (.inl V)))] sz)) 0 0 (va_A [(x, .inr (1, [.ref s0, .ref s1, .ref s2, .ref s3, .ref s4, .ref s5, .ref s6, .long tape, .long turn])), (s4, .inr (0, [.ref ka, .ref va, .int (nI n)])), (ka, .inl (cJ, 512, .inr (.inl K))), (va, .inl (cJ, 512, .inr (.inl V)))] sz) := by
  refine Met.ofW (cc := cX1_cut) (maxL := 3) (ret := (some .int)) (by decide) rfl ?_
  intro p e s m args below meth c s₁ B hml hv
  obtain ⟨rfl, hsz, hP, hK, hD0⟩ := hv
  have hx := B.exec
  have hb := B.bytes
  have hr := B.returns
  have hts := atoms_spec (ws := wsX1_cut) B.pre
  have hown : s.vm.findClass RX1 = some m.cls := findClass_of_methodNamed B.named
  have hlocks := B.notSynchronized
  have lk0 := hts (.fieldLink RX1 27 "KeyHall" "table" "LKeyHall$Sorted;") (by decide +kernel)
  have lk1 : ∀ w ∈ wsX10, w ∈ wsX1_cut := by decide +kernel
  subst hsz
  have hD := hD0.self (sz := s.heap.size)
  generalize hAe : va_A [(x, .inr (1, [.ref s0, .ref s1, .ref s2, .ref s3, .ref s4, .ref s5, .ref s6, .long tape, .long turn])), (s4, .inr (0, [.ref ka, .ref va, .int (nI n)])), (ka, .inl (cJ, 512, .inr (.inl K))), (va, .inl (cJ, 512, .inr (.inl V)))] s.heap.size = A at hD ⊢
  have hA : ∀ q : Nat, s.heap.size ≤ q → A q := fun q h => by rw [← hAe]; exact Or.inr h
  have hS : va_S A s.heap s.heap [] := va_S.rf
  have hP : va_P D vwCl [(x, .inr (1, [.ref s0, .ref s1, .ref s2, .ref s3, .ref s4, .ref s5, .ref s6, .long tape, .long turn])), (s4, .inr (0, [.ref ka, .ref va, .int (nI n)])), (ka, .inl (cJ, 512, .inr (.inl K))), (va, .inl (cJ, 512, .inr (.inl V)))] s.heap := hP
  have hl := lv_entry ([.ref x, .int a, .int b]) (n := 3) (Nat.le_of_ble_eq_true rfl)
  rw [lg_entry_eq]
  generalize (lg_sl ([.ref x, .int a, .int b]) ++ List.replicate (3 - (lg_sl ([.ref x, .int a, .int b])).length) Slot.unset).toArray = ls at hl ⊢
  have hl : lv_has ls 3 [(0, .ref x), (1, .int a), (2, .int b)] := hl
  refine lv_aload_n hx hb dX1_cut_0 rfl (lv_at hl 0 rfl) ?_
  refine va_get (D := D) (ci := 1) (v := .ref s4) (C := RX1) (T := TX1) (N := 9) hx hb hts lk1 hown hK hP 0 rfl rfl 4 (by decide) lk0 (fun _ h9 => h9) rfl dX1_cut_1 ?_
  refine lv_aload_n hx hb dX1_cut_4 rfl (lv_at hl 0 rfl) ?_
  refine va_get (D := D) (ci := 1) (v := .ref s4) (C := RX1) (T := TX1) (N := 9) hx hb hts lk1 hown hK hP 0 rfl rfl 4 (by decide) lk0 (fun _ h9 => h9) rfl dX1_cut_5 ?_
  refine lv_iload_n hx hb dX1_cut_8 rfl (lv_at hl 1 rfl) ?_
  refine lv_iload_n hx hb dX1_cut_9 rfl (lv_at hl 2 rfl) ?_
  refine vp_callSl (va_Run.run (va_runS (As := [.int a, .int b]) (rest := [.ref s4, .ref s4]) ⟨hx, hb, hml, hown, hts⟩ (c_X1_pairKey l a b) (va_cwS 2 hts gX1_cut_X1_pairKey rfl rfl rfl (by decide +kernel) ⟨Nat.le_of_ble_eq_true rfl, Nat.le_of_ble_eq_true rfl⟩) z_preT rfl rfl hl.1 rfl (lv_room (Nat.le_of_ble_eq_true rfl)) dX1_cut_10 ⟨Nat.zero_le _, Nat.zero_le _⟩)) (fun r_1 hr_1 => ?_)
  replace hr_1 := hr_1.symm
  subst hr_1
  refine vp_callSi (va_Run.run (va_runV (As := [.long (pk a b)]) (rest := [.ref s4]) ⟨hx, hb, hml, hown, hts⟩ (c_X0_find l D cI cJ s4 ka va 512 n K V (pk a b) (by omega) (by omega) (by assumption)) (cwV 1 hts gX1_cut_X0_find rfl rfl rfl (by decide +kernel) ⟨Nat.le_of_ble_eq_true rfl, Nat.le_of_ble_eq_true rfl⟩) (z_preV hK hP [1, 2, 3] rfl 0 1 rfl rfl) rfl rfl hl.1 rfl (lv_room (Nat.le_of_ble_eq_true rfl)) dX1_cut_13 ⟨Nat.zero_le _, Nat.zero_le _⟩)) (fun r_2 hr_2 => ?_)
  rcases hr_2 with ⟨j_3, hj, hje, rfl⟩ | ⟨hnf, rfl⟩
  · have hj31 : j_3 < 2 ^ 31 := by omega
    have hFc := va_free (wc := [(s4, .inr (0, [.ref ka, .ref va, .int (nI n)])), (ka, .inl (cJ, 512, .inr (.inl K))), (va, .inl (cJ, 512, .inr (.inl V)))]) hD hS hA [1, 2, 3] rfl
    refine va_calll (va_runV (As := [.int (nI j_3)]) (rest := []) ⟨hx, hb, hml, hown, hts⟩ (c_X0_takeAt l D cI cJ s4 ka va 512 n K V (nI j_3) (by omega) (by omega) (by first | exact Or.inl rfl | exact Or.inr ⟨_, by omega, rfl⟩) s.heap.size) (cwV 1 hts gX1_cut_X0_takeAt rfl rfl rfl (by decide +kernel) ⟨Nat.le_of_ble_eq_true rfl, Nat.le_of_ble_eq_true rfl⟩) (z_preVw hK hP hD [1, 2, 3] (by decide) rfl rfl 0 1 rfl rfl) rfl rfl hl.1 rfl (lv_room (Nat.le_of_ble_eq_true rfl)) dX1_cut_16 ⟨Nat.zero_le _, Nat.zero_le _⟩) hS (fun q _ h => hFc q h) hFc (fun r_5 u_4 t H1 locs ht hvm hr_5 hB hzz1 hkk1 hS => ?_)
    obtain ⟨n6, K6, V6⟩ := u_4
    obtain ⟨hP1, hK1, hD1⟩ := hB
    rw [ht] at hP1
    try dsimp only at hr_5
    obtain ⟨hP, hD⟩ := va_join (wr := [(x, .inr (1, [.ref s0, .ref s1, .ref s2, .ref s3, .ref s4, .ref s5, .ref s6, .long tape, .long turn]))]) (w1 := [(s4, .inr (0, [.ref ka, .ref va, .int (nI n6)])), (ka, .inl (cJ, 512, .inr (.inl K6))), (va, .inl (cJ, 512, .inr (.inl V6)))]) hP hD [1, 2, 3] [0] rfl rfl (by decide) (by decide) hkk1 hFc hP1 hD1
    generalize H1 = H at hP hS ⊢
    have hP : va_P D vwCl [(x, .inr (1, [.ref s0, .ref s1, .ref s2, .ref s3, .ref s4, .ref s5, .ref s6, .long tape, .long turn])), (s4, .inr (0, [.ref ka, .ref va, .int (nI n6)])), (ka, .inl (cJ, 512, .inr (.inl K6))), (va, .inl (cJ, 512, .inr (.inl V6)))] H := hP.sub [0, 1, 2, 3] rfl
    have hD : va_D A [(x, .inr (1, [.ref s0, .ref s1, .ref s2, .ref s3, .ref s4, .ref s5, .ref s6, .long tape, .long turn])), (s4, .inr (0, [.ref ka, .ref va, .int (nI n6)])), (ka, .inl (cJ, 512, .inr (.inl K6))), (va, .inl (cJ, 512, .inr (.inl V6)))] := hD.sub [0, 1, 2, 3] (by decide) rfl
    refine lv_pop2_2 hx hb dX1_cut_19 rfl ?_
    have hn2 : n6 ≤ 512 := by rw [show n6 = n - 1 from congrArg Prod.fst (hr_5.inn hj (by omega)).2]; omega
    refine lv_aload_n hx hb dX1_cut_20 rfl (lv_at hl 0 rfl) ?_
    refine va_get (D := D) (ci := 1) (v := .ref s4) (C := RX1) (T := TX1) (N := 9) hx hb hts lk1 hown hK hP 0 rfl rfl 4 (by decide) lk0 (fun _ h9 => h9) rfl dX1_cut_21 ?_
    refine lv_bipush (v := nI 32) hx hb dX1_cut_24 (by decide) ?_
    refine vp_callSi (va_Run.run (va_runV (As := [.int (nI 32)]) (rest := []) ⟨hx, hb, hml, hown, hts⟩ (c_X0_groups l D cI cJ s4 ka va 512 n6 K6 V6 (nI 32) (by omega) (by omega)) (cwV 1 hts gX1_cut_X0_groups rfl rfl rfl (by decide +kernel) ⟨Nat.le_of_ble_eq_true rfl, Nat.le_of_ble_eq_true rfl⟩) (z_preV hK hP [1, 2, 3] rfl 0 1 rfl rfl) rfl rfl hl.1 rfl (lv_room (Nat.le_of_ble_eq_true rfl)) dX1_cut_26 ⟨Nat.zero_le _, Nat.zero_le _⟩)) (fun r_7 hr_7 => ?_)
    replace hr_7 := hr_7.symm
    subst hr_7
    exact W.iret (v := nI (grp (fun i => K6 i >>> ((nI 32).toInt64 &&& 63)) n6)) hx hb hr (fun t ht hW => ⟨⟨nI (grp (fun i => K6 i >>> ((nI 32).toInt64 &&& 63)) n6), (n6, K6, V6), rfl, ⟨⟨_, Or.inl ⟨j_3, hj, hje, hr_5.inn hj (by omega)⟩⟩, rfl⟩, by rw [ht]; exact hP, va_K.moved hW.alike hK, hD⟩, hS.F ht⟩) hS.2.2 dX1_cut_29
  · have hFc := va_free (wc := [(s4, .inr (0, [.ref ka, .ref va, .int (nI n)])), (ka, .inl (cJ, 512, .inr (.inl K))), (va, .inl (cJ, 512, .inr (.inl V)))]) hD hS hA [1, 2, 3] rfl
    refine va_calll (va_runV (As := [.int (-1)]) (rest := []) ⟨hx, hb, hml, hown, hts⟩ (c_X0_takeAt l D cI cJ s4 ka va 512 n K V (-1) (by omega) (by omega) (by first | exact Or.inl rfl | exact Or.inr ⟨_, by omega, rfl⟩) s.heap.size) (cwV 1 hts gX1_cut_X0_takeAt rfl rfl rfl (by decide +kernel) ⟨Nat.le_of_ble_eq_true rfl, Nat.le_of_ble_eq_true rfl⟩) (z_preVw hK hP hD [1, 2, 3] (by decide) rfl rfl 0 1 rfl rfl) rfl rfl hl.1 rfl (lv_room (Nat.le_of_ble_eq_true rfl)) dX1_cut_16 ⟨Nat.zero_le _, Nat.zero_le _⟩) hS (fun q _ h => hFc q h) hFc (fun r_9 u_8 t H1 locs ht hvm hr_9 hB hzz1 hkk1 hS => ?_)
    obtain ⟨n10, K10, V10⟩ := u_8
    obtain ⟨hP1, hK1, hD1⟩ := hB
    rw [ht] at hP1
    try dsimp only at hr_9
    obtain ⟨hP, hD⟩ := va_join (wr := [(x, .inr (1, [.ref s0, .ref s1, .ref s2, .ref s3, .ref s4, .ref s5, .ref s6, .long tape, .long turn]))]) (w1 := [(s4, .inr (0, [.ref ka, .ref va, .int (nI n10)])), (ka, .inl (cJ, 512, .inr (.inl K10))), (va, .inl (cJ, 512, .inr (.inl V10)))]) hP hD [1, 2, 3] [0] rfl rfl (by decide) (by decide) hkk1 hFc hP1 hD1
    generalize H1 = H at hP hS ⊢
    have hP : va_P D vwCl [(x, .inr (1, [.ref s0, .ref s1, .ref s2, .ref s3, .ref s4, .ref s5, .ref s6, .long tape, .long turn])), (s4, .inr (0, [.ref ka, .ref va, .int (nI n10)])), (ka, .inl (cJ, 512, .inr (.inl K10))), (va, .inl (cJ, 512, .inr (.inl V10)))] H := hP.sub [0, 1, 2, 3] rfl
    have hD : va_D A [(x, .inr (1, [.ref s0, .ref s1, .ref s2, .ref s3, .ref s4, .ref s5, .ref s6, .long tape, .long turn])), (s4, .inr (0, [.ref ka, .ref va, .int (nI n10)])), (ka, .inl (cJ, 512, .inr (.inl K10))), (va, .inl (cJ, 512, .inr (.inl V10)))] := hD.sub [0, 1, 2, 3] (by decide) rfl
    refine lv_pop2_2 hx hb dX1_cut_19 rfl ?_
    have hn2 : n10 ≤ 512 := by rw [show n10 = n from congrArg Prod.fst (hr_9.out (m1_out n) (by omega)).2]; omega
    refine lv_aload_n hx hb dX1_cut_20 rfl (lv_at hl 0 rfl) ?_
    refine va_get (D := D) (ci := 1) (v := .ref s4) (C := RX1) (T := TX1) (N := 9) hx hb hts lk1 hown hK hP 0 rfl rfl 4 (by decide) lk0 (fun _ h9 => h9) rfl dX1_cut_21 ?_
    refine lv_bipush (v := nI 32) hx hb dX1_cut_24 (by decide) ?_
    refine vp_callSi (va_Run.run (va_runV (As := [.int (nI 32)]) (rest := []) ⟨hx, hb, hml, hown, hts⟩ (c_X0_groups l D cI cJ s4 ka va 512 n10 K10 V10 (nI 32) (by omega) (by omega)) (cwV 1 hts gX1_cut_X0_groups rfl rfl rfl (by decide +kernel) ⟨Nat.le_of_ble_eq_true rfl, Nat.le_of_ble_eq_true rfl⟩) (z_preV hK hP [1, 2, 3] rfl 0 1 rfl rfl) rfl rfl hl.1 rfl (lv_room (Nat.le_of_ble_eq_true rfl)) dX1_cut_26 ⟨Nat.zero_le _, Nat.zero_le _⟩)) (fun r_11 hr_11 => ?_)
    replace hr_11 := hr_11.symm
    subst hr_11
    exact W.iret (v := nI (grp (fun i => K10 i >>> ((nI 32).toInt64 &&& 63)) n10)) hx hb hr (fun t ht hW => ⟨⟨nI (grp (fun i => K10 i >>> ((nI 32).toInt64 &&& 63)) n10), (n10, K10, V10), rfl, ⟨⟨_, Or.inr ⟨hnf, hr_9.out (m1_out n) (by omega)⟩⟩, rfl⟩, by rw [ht]; exact hP, va_K.moved hW.alike hK, hD⟩, hS.F ht⟩) hS.2.2 dX1_cut_29
