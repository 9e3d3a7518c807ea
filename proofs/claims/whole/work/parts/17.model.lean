/-! the model: counts, coming, rising, table -/
set_option maxHeartbeats 4000000 in
set_option maxRecDepth 100000 in
theorem c_X3_told (l : Launch) (D : va_G) (cI cJ : ClassId) (o a0 b0 v0 cap n : Nat) (fa fb : Nat → Int32) (fv : Nat → Int64) (x : Int32) (hn : n ≤ cap) (hc : cap ≤ 1100) (hx0 : x = (-1) ∨ ∃ j, j < n ∧ x = nI j) : Met l yX3_told wsX3_told { frames := 0, cells := 0, slots := 0, locals := 0 } (va_Pc [.ref o, .int x] (rP D cI cJ [(o, .inr (2, [.ref a0, .ref b0, .ref v0, .int (nI n)])), (a0, .inl (cI, cap, .inl fa)), (b0, .inl (cI, cap, .inl fb)), (v0, .inl (cJ, cap, .inr (.inl fv)))])) (vp_Sl (fun r => r = tld fv x)) 0 0 (fun _ => False) := by
  refine Met.ofW (cc := cX3_told) (maxL := 2) (ret := (some .long)) (by decide) rfl ?_
  intro p e s m args below meth c s₁ B hml hv
  obtain ⟨rfl, hP, hK⟩ := hv
  have hx := B.exec
  have hb := B.bytes
  have hr := B.returns
  have hts := atoms_spec (ws := wsX3_told) B.pre
  have hown : s.vm.findClass RX3 = some m.cls := findClass_of_methodNamed B.named
  have hlocks := B.notSynchronized
  have lk0 := hts (.fieldLink RX3 50 "KeyHallModel$Rows" "v" "[J") (by decide +kernel)
  have lk1 : ∀ w ∈ wsX20, w ∈ wsX3_told := by decide +kernel
  have lk2 := hts (.constantLong RX3 54 (4611686018427387904)) (by decide +kernel)
  have hl := lv_entry ([.ref o, .int x]) (n := 2) (Nat.le_of_ble_eq_true rfl)
  rw [lg_entry_eq]
  generalize (lg_sl ([.ref o, .int x]) ++ List.replicate (2 - (lg_sl ([.ref o, .int x])).length) Slot.unset).toArray = ls at hl ⊢
  have hl : lv_has ls 2 [(0, .ref o), (1, .int x)] := hl
  refine lv_iload_n hx hb dX3_told_0 rfl (lv_at hl 1 rfl) ?_
  refine lv_if_ge (tgt := 10) hx hb dX3_told_1 (by decide) (fun c_1 => ?_) (fun c_1 => ?_)
  · obtain ⟨j, hj, rfl⟩ : ∃ j, j < n ∧ x = nI j := hx0.elim (fun q => absurd c_1 (by rw [q]; decide)) id
    refine lv_aload_n hx hb dX3_told_10 rfl (lv_at hl 0 rfl) ?_
    refine va_get (D := D) (ci := 2) (v := .ref v0) (C := RX2) (T := TX2) (N := 4) hx hb hts lk1 hown hK hP 0 rfl rfl 2 (by decide) lk0 (fun _ h9 => h9) rfl dX3_told_11 ?_
    refine lv_iload_n hx hb dX3_told_14 rfl (lv_at hl 1 rfl) ?_
    refine z_lald hx hb hK hP 3 rfl (j := j) (by omega) (by omega) dX3_told_15 ?_
    exact W.lret (v := fv j) hx hb hr (fun t ht hW => ⟨fv j, rfl, (tld_N (by omega)).symm, ht⟩) (fun _ h => nomatch h) dX3_told_16
  · refine lv_ldc2 hx hb hown lk2 dX3_told_4 ?_
    refine lv_goto (tgt := 16) hx hb dX3_told_7 (by decide) ?_
    exact W.lret (v := 4611686018427387904) hx hb hr (fun t ht hW => ⟨4611686018427387904, rfl, by unfold tld; rw [if_pos (Int32.not_le.mp c_1)]; rfl, ht⟩) (fun _ h => nomatch h) dX3_told_16

set_option maxHeartbeats 4000000 in
set_option maxRecDepth 100000 in
theorem c_X3_count (l : Launch) (D : va_G) (cI cJ : ClassId) (y r0 r1 r2 r3 r4 r5 wd tp wm tm : Nat) (a0 b0 v0 cap n : Nat) (fa fb : Nat → Int32) (fv : Nat → Int64) (hn : n ≤ cap) (hc : cap ≤ 1100) (h16 : 16 ≤ cap) (a b : Int32) : Met l yX3_count wsX3_count { frames := 1, cells := 0, slots := 0, locals := 23 } (va_Pc [.ref y, .int a, .int b] (rP D cI cJ [(y, .inr (3, [.ref r0, .ref r1, .ref r2, .ref r3, .ref r4, .ref r5, .ref wd, .ref tp, .int (nI wm), .int (nI tm)])), (r0, .inr (2, [.ref a0, .ref b0, .ref v0, .int (nI n)])), (a0, .inl (cI, cap, .inl fa)), (b0, .inl (cI, cap, .inl fb)), (v0, .inl (cJ, cap, .inr (.inl fv)))])) (vp_Sl (fun r => LkL (rl n fa fb fv) a b r)) 0 0 (fun _ => False) := by
  refine Met.ofW (cc := cX3_count) (maxL := 3) (ret := (some .long)) (by decide) rfl ?_
  intro p e s m args below meth c s₁ B hml hv
  obtain ⟨rfl, hP, hK⟩ := hv
  have hx := B.exec
  have hb := B.bytes
  have hr := B.returns
  have hts := atoms_spec (ws := wsX3_count) B.pre
  have hown : s.vm.findClass RX3 = some m.cls := findClass_of_methodNamed B.named
  have hlocks := B.notSynchronized
  have lk0 := hts (.fieldLink RX3 10 "KeyHallModel" "counts" "LKeyHallModel$Rows;") (by decide +kernel)
  have lk1 : ∀ w ∈ wsX30, w ∈ wsX3_count := by decide +kernel
  have hl := lv_entry ([.ref y, .int a, .int b]) (n := 3) (Nat.le_of_ble_eq_true rfl)
  rw [lg_entry_eq]
  generalize (lg_sl ([.ref y, .int a, .int b]) ++ List.replicate (3 - (lg_sl ([.ref y, .int a, .int b])).length) Slot.unset).toArray = ls at hl ⊢
  have hl : lv_has ls 3 [(0, .ref y), (1, .int a), (2, .int b)] := hl
  refine lv_aload_n hx hb dX3_count_0 rfl (lv_at hl 0 rfl) ?_
  refine va_get (D := D) (ci := 3) (v := .ref r0) (C := RX3) (T := TX3) (N := 10) hx hb hts lk1 hown hK hP 0 rfl rfl 0 (by decide) lk0 (fun _ h9 => h9) rfl dX3_count_1 ?_
  refine lv_aload_n hx hb dX3_count_4 rfl (lv_at hl 0 rfl) ?_
  refine va_get (D := D) (ci := 3) (v := .ref r0) (C := RX3) (T := TX3) (N := 10) hx hb hts lk1 hown hK hP 0 rfl rfl 0 (by decide) lk0 (fun _ h9 => h9) rfl dX3_count_5 ?_
  refine lv_iload_n hx hb dX3_count_8 rfl (lv_at hl 1 rfl) ?_
  refine lv_iload_n hx hb dX3_count_9 rfl (lv_at hl 2 rfl) ?_
  refine vp_callSi (va_Run.run (va_runV (As := [.int a, .int b]) (rest := [.ref r0]) ⟨hx, hb, hml, hown, hts⟩ (c_X2_find l D cI cJ r0 a0 b0 v0 cap n fa fb fv a b (by omega) (by omega)) (cwV 2 hts gX3_count_X2_find rfl rfl rfl (by decide +kernel) ⟨Nat.le_of_ble_eq_true rfl, Nat.le_of_ble_eq_true rfl⟩) (z_preV hK hP [1, 2, 3, 4] rfl 2 1 rfl rfl) rfl rfl hl.1 rfl (lv_room (Nat.le_of_ble_eq_true rfl)) dX3_count_10 ⟨Nat.zero_le _, Nat.zero_le _⟩)) (fun r_1 hr_1 => ?_)
  rcases hr_1 with ⟨j_2, e_f, he, hea, heb, rfl⟩ | ⟨hnf, rfl⟩
  · obtain ⟨hj, hja, hjb, hjv⟩ := rl_lt he
    refine vp_callSl (va_Run.run (va_runS (As := [.ref r0, .int (nI j_2)]) (rest := []) ⟨hx, hb, hml, hown, hts⟩ (c_X3_told l D cI cJ r0 a0 b0 v0 cap n fa fb fv (nI j_2) (by omega) (by omega) (Or.inr ⟨_, by omega, rfl⟩)) (va_cwS 2 hts gX3_count_X3_told rfl rfl rfl (by decide +kernel) ⟨Nat.le_of_ble_eq_true rfl, Nat.le_of_ble_eq_true rfl⟩) (z_preS hK hP [1, 2, 3, 4] rfl) rfl rfl hl.1 rfl (lv_room (Nat.le_of_ble_eq_true rfl)) dX3_count_13 ⟨Nat.zero_le _, Nat.zero_le _⟩)) (fun r_3 hr_3 => ?_)
    replace hr_3 := hr_3.symm
    subst hr_3
    refine z_topl (y := fv j_2) (tld_N (by omega)) ?_
    exact W.lret (v := fv j_2) hx hb hr (fun t ht hW => ⟨fv j_2, rfl, Or.inl ⟨j_2, e_f, he, hea, heb, hjv⟩, ht⟩) (fun _ h => nomatch h) dX3_count_16
  · refine vp_callSl (va_Run.run (va_runS (As := [.ref r0, .int (-1)]) (rest := []) ⟨hx, hb, hml, hown, hts⟩ (c_X3_told l D cI cJ r0 a0 b0 v0 cap n fa fb fv (-1) (by omega) (by omega) (Or.inl rfl)) (va_cwS 2 hts gX3_count_X3_told rfl rfl rfl (by decide +kernel) ⟨Nat.le_of_ble_eq_true rfl, Nat.le_of_ble_eq_true rfl⟩) (z_preS hK hP [1, 2, 3, 4] rfl) rfl rfl hl.1 rfl (lv_room (Nat.le_of_ble_eq_true rfl)) dX3_count_13 ⟨Nat.zero_le _, Nat.zero_le _⟩)) (fun r_4 hr_4 => ?_)
    replace hr_4 := hr_4.symm
    subst hr_4
    refine z_topl (y := NO) (tld_m) ?_
    exact W.lret (v := NO) hx hb hr (fun t ht hW => ⟨NO, rfl, Or.inr ⟨hnf, rfl⟩, ht⟩) (fun _ h => nomatch h) dX3_count_16

set_option maxHeartbeats 4000000 in
set_option maxRecDepth 100000 in
theorem c_X3_get (l : Launch) (D : va_G) (cI cJ : ClassId) (y r0 r1 r2 r3 r4 r5 wd tp wm tm : Nat) (a0 b0 v0 cap n : Nat) (fa fb : Nat → Int32) (fv : Nat → Int64) (hn : n ≤ cap) (hc : cap ≤ 1100) (h16 : 16 ≤ cap) (a b : Int32) : Met l yX3_get wsX3_get { frames := 1, cells := 0, slots := 0, locals := 23 } (va_Pc [.ref y, .int a, .int b] (rP D cI cJ [(y, .inr (3, [.ref r0, .ref r1, .ref r2, .ref r3, .ref r4, .ref r5, .ref wd, .ref tp, .int (nI wm), .int (nI tm)])), (r4, .inr (2, [.ref a0, .ref b0, .ref v0, .int (nI n)])), (a0, .inl (cI, cap, .inl fa)), (b0, .inl (cI, cap, .inl fb)), (v0, .inl (cJ, cap, .inr (.inl fv)))])) (vp_Sl (fun r => LkL (rl n fa fb fv) a b r)) 0 0 (fun _ => False) := by
  refine Met.ofW (cc := cX3_get) (maxL := 3) (ret := (some .long)) (by decide) rfl ?_
  intro p e s m args below meth c s₁ B hml hv
  obtain ⟨rfl, hP, hK⟩ := hv
  have hx := B.exec
  have hb := B.bytes
  have hr := B.returns
  have hts := atoms_spec (ws := wsX3_get) B.pre
  have hown : s.vm.findClass RX3 = some m.cls := findClass_of_methodNamed B.named
  have hlocks := B.notSynchronized
  have lk0 := hts (.fieldLink RX3 25 "KeyHallModel" "table" "LKeyHallModel$Rows;") (by decide +kernel)
  have lk1 : ∀ w ∈ wsX30, w ∈ wsX3_get := by decide +kernel
  have hl := lv_entry ([.ref y, .int a, .int b]) (n := 3) (Nat.le_of_ble_eq_true rfl)
  rw [lg_entry_eq]
  generalize (lg_sl ([.ref y, .int a, .int b]) ++ List.replicate (3 - (lg_sl ([.ref y, .int a, .int b])).length) Slot.unset).toArray = ls at hl ⊢
  have hl : lv_has ls 3 [(0, .ref y), (1, .int a), (2, .int b)] := hl
  refine lv_aload_n hx hb dX3_get_0 rfl (lv_at hl 0 rfl) ?_
  refine va_get (D := D) (ci := 3) (v := .ref r4) (C := RX3) (T := TX3) (N := 10) hx hb hts lk1 hown hK hP 0 rfl rfl 4 (by decide) lk0 (fun _ h9 => h9) rfl dX3_get_1 ?_
  refine lv_aload_n hx hb dX3_get_4 rfl (lv_at hl 0 rfl) ?_
  refine va_get (D := D) (ci := 3) (v := .ref r4) (C := RX3) (T := TX3) (N := 10) hx hb hts lk1 hown hK hP 0 rfl rfl 4 (by decide) lk0 (fun _ h9 => h9) rfl dX3_get_5 ?_
  refine lv_iload_n hx hb dX3_get_8 rfl (lv_at hl 1 rfl) ?_
  refine lv_iload_n hx hb dX3_get_9 rfl (lv_at hl 2 rfl) ?_
  refine vp_callSi (va_Run.run (va_runV (As := [.int a, .int b]) (rest := [.ref r4]) ⟨hx, hb, hml, hown, hts⟩ (c_X2_find l D cI cJ r4 a0 b0 v0 cap n fa fb fv a b (by omega) (by omega)) (cwV 2 hts gX3_get_X2_find rfl rfl rfl (by decide +kernel) ⟨Nat.le_of_ble_eq_true rfl, Nat.le_of_ble_eq_true rfl⟩) (z_preV hK hP [1, 2, 3, 4] rfl 2 1 rfl rfl) rfl rfl hl.1 rfl (lv_room (Nat.le_of_ble_eq_true rfl)) dX3_get_10 ⟨Nat.zero_le _, Nat.zero_le _⟩)) (fun r_1 hr_1 => ?_)
  rcases hr_1 with ⟨j_2, e_f, he, hea, heb, rfl⟩ | ⟨hnf, rfl⟩
  · obtain ⟨hj, hja, hjb, hjv⟩ := rl_lt he
    refine vp_callSl (va_Run.run (va_runS (As := [.ref r4, .int (nI j_2)]) (rest := []) ⟨hx, hb, hml, hown, hts⟩ (c_X3_told l D cI cJ r4 a0 b0 v0 cap n fa fb fv (nI j_2) (by omega) (by omega) (Or.inr ⟨_, by omega, rfl⟩)) (va_cwS 2 hts gX3_get_X3_told rfl rfl rfl (by decide +kernel) ⟨Nat.le_of_ble_eq_true rfl, Nat.le_of_ble_eq_true rfl⟩) (z_preS hK hP [1, 2, 3, 4] rfl) rfl rfl hl.1 rfl (lv_room (Nat.le_of_ble_eq_true rfl)) dX3_get_13 ⟨Nat.zero_le _, Nat.zero_le _⟩)) (fun r_3 hr_3 => ?_)
    replace hr_3 := hr_3.symm
    subst hr_3
    refine z_topl (y := fv j_2) (tld_N (by omega)) ?_
    exact W.lret (v := fv j_2) hx hb hr (fun t ht hW => ⟨fv j_2, rfl, Or.inl ⟨j_2, e_f, he, hea, heb, hjv⟩, ht⟩) (fun _ h => nomatch h) dX3_get_16
  · refine vp_callSl (va_Run.run (va_runS (As := [.ref r4, .int (-1)]) (rest := []) ⟨hx, hb, hml, hown, hts⟩ (c_X3_told l D cI cJ r4 a0 b0 v0 cap n fa fb fv (-1) (by omega) (by omega) (Or.inl rfl)) (va_cwS 2 hts gX3_get_X3_told rfl rfl rfl (by decide +kernel) ⟨Nat.le_of_ble_eq_true rfl, Nat.le_of_ble_eq_true rfl⟩) (z_preS hK hP [1, 2, 3, 4] rfl) rfl rfl hl.1 rfl (lv_room (Nat.le_of_ble_eq_true rfl)) dX3_get_13 ⟨Nat.zero_le _, Nat.zero_le _⟩)) (fun r_4 hr_4 => ?_)
    replace hr_4 := hr_4.symm
    subst hr_4
    refine z_topl (y := NO) (tld_m) ?_
    exact W.lret (v := NO) hx hb hr (fun t ht hW => ⟨NO, rfl, Or.inr ⟨hnf, rfl⟩, ht⟩) (fun _ h => nomatch h) dX3_get_16

set_option maxHeartbeats 4000000 in
set_option maxRecDepth 100000 in
theorem c_X3_add (l : Launch) (D : va_G) (cI cJ : ClassId) (y r0 r1 r2 r3 r4 r5 wd tp wm tm : Nat) (a0 b0 v0 cap n : Nat) (fa fb : Nat → Int32) (fv : Nat → Int64) (hn : n ≤ cap) (hc : cap ≤ 1100) (h16 : 16 ≤ cap) (hn5 : n ≤ 549) (a b z : Int32) (sz : Nat) : Met l yX3_add wsX3_add { frames := 1, cells := 3, slots := 6600, locals := 28 } (va_Pc [.ref y, .int a, .int b, .int z] (wP D cI cJ [(y, .inr (3, [.ref r0, .ref r1, .ref r2, .ref r3, .ref r4, .ref r5, .ref wd, .ref tp, .int (nI wm), .int (nI tm)])), (r0, .inr (2, [.ref a0, .ref b0, .ref v0, .int (nI n)])), (a0, .inl (cI, cap, .inl fa)), (b0, .inl (cI, cap, .inl fb)), (v0, .inl (cJ, cap, .inr (.inl fv)))] sz)) (va_Ql (fun r (u : Nat × Nat × Nat × Nat × Nat × (Nat → Int32) × (Nat → Int32) × (Nat → Int64)) => match u with | (a', b', v', cap', n', fa', fb', fv') => ROK n' cap' ∧ (AdL (rl n fa fb fv) a b z.toInt64 r (rl n' fa' fb' fv'))) (wB D cI cJ (va_A [(y, .inr (3, [.ref r0, .ref r1, .ref r2, .ref r3, .ref r4, .ref r5, .ref wd, .ref tp, .int (nI wm), .int (nI tm)])), (r0, .inr (2, [.ref a0, .ref b0, .ref v0, .int (nI n)])), (a0, .inl (cI, cap, .inl fa)), (b0, .inl (cI, cap, .inl fb)), (v0, .inl (cJ, cap, .inr (.inl fv)))] sz) (fun (a', b', v', cap', n', fa', fb', fv') => [(y, .inr (3, [.ref r0, .ref r1, .ref r2, .ref r3, .ref r4, .ref r5, .ref wd, .ref tp, .int (nI wm), .int (nI tm)])), (r0, .inr (2, [.ref a', .ref b', .ref v', .int (nI n')])), (a', .inl (cI, cap', .inl fa')), (b', .inl (cI, cap', .inl fb')), (v', .inl (cJ, cap', .inr (.inl fv')))])) (va_A [(y, .inr (3, [.ref r0, .ref r1, .ref r2, .ref r3, .ref r4, .ref r5, .ref wd, .ref tp, .int (nI wm), .int (nI tm)])), (r0, .inr (2, [.ref a0, .ref b0, .ref v0, .int (nI n)])), (a0, .inl (cI, cap, .inl fa)), (b0, .inl (cI, cap, .inl fb)), (v0, .inl (cJ, cap, .inr (.inl fv)))] sz)) 3 6600 (va_A [(y, .inr (3, [.ref r0, .ref r1, .ref r2, .ref r3, .ref r4, .ref r5, .ref wd, .ref tp, .int (nI wm), .int (nI tm)])), (r0, .inr (2, [.ref a0, .ref b0, .ref v0, .int (nI n)])), (a0, .inl (cI, cap, .inl fa)), (b0, .inl (cI, cap, .inl fb)), (v0, .inl (cJ, cap, .inr (.inl fv)))] sz) := by
  refine Met.ofW (cc := cX3_add) (maxL := 5) (ret := (some .long)) (by decide) rfl ?_
  intro p e s m args below meth c s₁ B hml hv
  obtain ⟨rfl, hsz, hP, hK, hD0⟩ := hv
  have hx := B.exec
  have hb := B.bytes
  have hr := B.returns
  have hts := atoms_spec (ws := wsX3_add) B.pre
  have hown : s.vm.findClass RX3 = some m.cls := findClass_of_methodNamed B.named
  have hlocks := B.notSynchronized
  have lk0 := hts (.fieldLink RX3 10 "KeyHallModel" "counts" "LKeyHallModel$Rows;") (by decide +kernel)
  have lk1 : ∀ w ∈ wsX30, w ∈ wsX3_add := by decide +kernel
  have lk2 := hts (.fieldLink RX3 50 "KeyHallModel$Rows" "v" "[J") (by decide +kernel)
  have lk3 : ∀ w ∈ wsX20, w ∈ wsX3_add := by decide +kernel
  have lk4 := hts (.fieldLink RX3 46 "KeyHallModel$Rows" "many" "I") (by decide +kernel)
  subst hsz
  have hD := hD0.self (sz := s.heap.size)
  generalize hAe : va_A [(y, .inr (3, [.ref r0, .ref r1, .ref r2, .ref r3, .ref r4, .ref r5, .ref wd, .ref tp, .int (nI wm), .int (nI tm)])), (r0, .inr (2, [.ref a0, .ref b0, .ref v0, .int (nI n)])), (a0, .inl (cI, cap, .inl fa)), (b0, .inl (cI, cap, .inl fb)), (v0, .inl (cJ, cap, .inr (.inl fv)))] s.heap.size = A at hD ⊢
  have hA : ∀ q : Nat, s.heap.size ≤ q → A q := fun q h => by rw [← hAe]; exact Or.inr h
  have hS : va_S A s.heap s.heap [] := va_S.rf
  have hP : va_P D vwCl [(y, .inr (3, [.ref r0, .ref r1, .ref r2, .ref r3, .ref r4, .ref r5, .ref wd, .ref tp, .int (nI wm), .int (nI tm)])), (r0, .inr (2, [.ref a0, .ref b0, .ref v0, .int (nI n)])), (a0, .inl (cI, cap, .inl fa)), (b0, .inl (cI, cap, .inl fb)), (v0, .inl (cJ, cap, .inr (.inl fv)))] s.heap := hP
  have hl := lv_entry ([.ref y, .int a, .int b, .int z]) (n := 5) (Nat.le_of_ble_eq_true rfl)
  rw [lg_entry_eq]
  generalize (lg_sl ([.ref y, .int a, .int b, .int z]) ++ List.replicate (5 - (lg_sl ([.ref y, .int a, .int b, .int z])).length) Slot.unset).toArray = ls at hl ⊢
  have hl : lv_has ls 5 [(0, .ref y), (1, .int a), (2, .int b), (3, .int z)] := hl
  refine lv_aload_n hx hb dX3_add_0 rfl (lv_at hl 0 rfl) ?_
  refine va_get (D := D) (ci := 3) (v := .ref r0) (C := RX3) (T := TX3) (N := 10) hx hb hts lk1 hown hK hP 0 rfl rfl 0 (by decide) lk0 (fun _ h9 => h9) rfl dX3_add_1 ?_
  refine lv_iload_n hx hb dX3_add_4 rfl (lv_at hl 1 rfl) ?_
  refine lv_iload_n hx hb dX3_add_5 rfl (lv_at hl 2 rfl) ?_
  refine vp_callSi (va_Run.run (va_runV (As := [.int a, .int b]) (rest := []) ⟨hx, hb, hml, hown, hts⟩ (c_X2_find l D cI cJ r0 a0 b0 v0 cap n fa fb fv a b (by omega) (by omega)) (cwV 2 hts gX3_add_X2_find rfl rfl rfl (by decide +kernel) ⟨Nat.le_of_ble_eq_true rfl, Nat.le_of_ble_eq_true rfl⟩) (z_preV hK hP [1, 2, 3, 4] rfl 2 1 rfl rfl) rfl rfl hl.1 rfl (lv_room (Nat.le_of_ble_eq_true rfl)) dX3_add_6 ⟨by show _ ≤ 3; omega, by show _ ≤ 6600; omega⟩)) (fun r_1 hr_1 => ?_)
  rcases hr_1 with ⟨j_2, e_f, he, hea, heb, rfl⟩ | ⟨hnf, rfl⟩
  · obtain ⟨hj, hja, hjb, hjv⟩ := rl_lt he
    refine lv_istore (lv' := [(4, .int (nI j_2)), (0, .ref y), (1, .int a), (2, .int b), (3, .int z)]) hx hb dX3_add_9 hl (by decide) rfl (fun ls hl => ?_)
    refine lv_iload hx hb dX3_add_11 (lv_at hl 0 rfl) ?_
    refine z_if_ge (tgt := 37) hx hb dX3_add_13 (by decide) (by omega) ?_
    refine lv_aload_n hx hb dX3_add_37 rfl (lv_at hl 1 rfl) ?_
    refine va_get (D := D) (ci := 3) (v := .ref r0) (C := RX3) (T := TX3) (N := 10) hx hb hts lk1 hown hK hP 0 rfl rfl 0 (by decide) lk0 (fun _ h9 => h9) rfl dX3_add_38 ?_
    refine va_get (D := D) (ci := 2) (v := .ref v0) (C := RX2) (T := TX2) (N := 4) hx hb hts lk3 hown hK hP 1 rfl rfl 2 (by decide) lk2 (fun _ h9 => h9) rfl dX3_add_41 ?_
    refine lv_iload hx hb dX3_add_44 (lv_at hl 0 rfl) ?_
    refine lv_dup2_11 hx hb dX3_add_46 rfl rfl ?_
    refine z_lald hx hb hK hP 4 rfl (j := j_2) (by omega) (by omega) dX3_add_47 ?_
    refine lv_iload_n hx hb dX3_add_48 rfl (lv_at hl 4 rfl) ?_
    refine lv_i2l (v := z.toInt64) hx hb dX3_add_49 rfl ?_
    refine lv_ladd hx hb dX3_add_50 ?_
    refine z_last hx hb hK hP hD hS 4 rfl (j := j_2) (by omega) (by omega) dX3_add_51 (fun H locs hP hD hS => ?_)
    have hP : va_P D vwCl [(y, .inr (3, [.ref r0, .ref r1, .ref r2, .ref r3, .ref r4, .ref r5, .ref wd, .ref tp, .int (nI wm), .int (nI tm)])), (r0, .inr (2, [.ref a0, .ref b0, .ref v0, .int (nI n)])), (a0, .inl (cI, cap, .inl fa)), (b0, .inl (cI, cap, .inl fb)), (v0, .inl (cJ, cap, .inr (.inl (vp_updL fv j_2 ((fv j_2) + z.toInt64)))))] H := hP
    have hD : va_D A [(y, .inr (3, [.ref r0, .ref r1, .ref r2, .ref r3, .ref r4, .ref r5, .ref wd, .ref tp, .int (nI wm), .int (nI tm)])), (r0, .inr (2, [.ref a0, .ref b0, .ref v0, .int (nI n)])), (a0, .inl (cI, cap, .inl fa)), (b0, .inl (cI, cap, .inl fb)), (v0, .inl (cJ, cap, .inr (.inl (vp_updL fv j_2 ((fv j_2) + z.toInt64)))))] := hD
    refine lv_aload_n hx hb dX3_add_52 rfl (lv_at hl 1 rfl) ?_
    refine va_get (D := D) (ci := 3) (v := .ref r0) (C := RX3) (T := TX3) (N := 10) hx hb hts lk1 hown hK hP 0 rfl rfl 0 (by decide) lk0 (fun _ h9 => h9) rfl dX3_add_53 ?_
    refine va_get (D := D) (ci := 2) (v := .ref v0) (C := RX2) (T := TX2) (N := 4) hx hb hts lk3 hown hK hP 1 rfl rfl 2 (by decide) lk2 (fun _ h9 => h9) rfl dX3_add_56 ?_
    refine lv_iload hx hb dX3_add_59 (lv_at hl 0 rfl) ?_
    refine z_lald hx hb hK hP 4 rfl (j := j_2) (by omega) (by omega) dX3_add_61 ?_
    refine W.widen (k := 3) (n := 6600) (by omega) (by omega) ?_
    exact W.lret (v := (vp_updL fv j_2 ((fv j_2) + z.toInt64)) j_2) hx hb hr (fun t ht hW => ⟨⟨(vp_updL fv j_2 ((fv j_2) + z.toInt64)) j_2, (a0, b0, v0, cap, n, fa, fb, vp_updL fv j_2 ((fv j_2) + z.toInt64)), rfl, ⟨⟨hn, h16, hc⟩, Or.inl ⟨j_2, e_f, he, hea, heb, by rw [← hjv]; exact pk_uLs, by rw [rl_set, hja, hea, hjb, heb, hjv]⟩⟩, by rw [ht]; exact (hP.sub [0, 1, 2, 3, 4] rfl), va_K.moved hW.alike hK, (hD.sub [0, 1, 2, 3, 4] (by decide) rfl)⟩, hS.F ht⟩) hS.2.2 dX3_add_62
  · refine lv_istore (lv' := [(4, .int (-1)), (0, .ref y), (1, .int a), (2, .int b), (3, .int z)]) hx hb dX3_add_9 hl (by decide) rfl (fun ls hl => ?_)
    refine lv_iload hx hb dX3_add_11 (lv_at hl 0 rfl) ?_
    refine lv_if_ge (tgt := 37) hx hb dX3_add_13 (by decide) (fun q => absurd q (by decide)) (fun _ => ?_)
    refine lv_aload_n hx hb dX3_add_16 rfl (lv_at hl 1 rfl) ?_
    refine va_get (D := D) (ci := 3) (v := .ref r0) (C := RX3) (T := TX3) (N := 10) hx hb hts lk1 hown hK hP 0 rfl rfl 0 (by decide) lk0 (fun _ h9 => h9) rfl dX3_add_17 ?_
    refine lv_iload_n hx hb dX3_add_20 rfl (lv_at hl 2 rfl) ?_
    refine lv_iload_n hx hb dX3_add_21 rfl (lv_at hl 3 rfl) ?_
    refine lv_lconst (v := 0) hx hb dX3_add_22 (by decide) ?_
    have hFc := va_free (wc := [(r0, .inr (2, [.ref a0, .ref b0, .ref v0, .int (nI n)])), (a0, .inl (cI, cap, .inl fa)), (b0, .inl (cI, cap, .inl fb)), (v0, .inl (cJ, cap, .inr (.inl fv)))]) hD hS hA [1, 2, 3, 4] rfl
    refine va_callv (va_runV (As := [.int a, .int b, .long 0]) (rest := []) ⟨hx, hb, hml, hown, hts⟩ (c_X2_add l D cI cJ r0 a0 b0 v0 cap n fa fb fv a b 0  (by omega) (by omega) (by omega) 3 6600 (fun _ => ⟨by omega, by omega⟩) s.heap.size) (cwV 3 hts gX3_add_X2_add rfl rfl rfl (by decide +kernel) ⟨Nat.le_of_ble_eq_true rfl, Nat.le_of_ble_eq_true rfl⟩) (z_preVw hK hP hD [1, 2, 3, 4] (by decide) rfl rfl 2 1 rfl rfl) rfl rfl hl.1 rfl (lv_room (Nat.le_of_ble_eq_true rfl)) dX3_add_23 ⟨by show _ ≤ 3; omega, by show _ ≤ 6600; omega⟩) hS (fun q _ h => hFc q h) hFc (fun u_4 t H1 locs ht hvm hr_3 hB hzz1 hkk1 hS => ?_)
    obtain ⟨a5, b5, v5, cap5, fa5, fb5, fv5⟩ := u_4
    obtain ⟨hP1, hK1, hD1⟩ := hB
    rw [ht] at hP1
    try dsimp only at hr_3
    obtain ⟨hP, hD⟩ := va_join (wr := [(y, .inr (3, [.ref r0, .ref r1, .ref r2, .ref r3, .ref r4, .ref r5, .ref wd, .ref tp, .int (nI wm), .int (nI tm)]))]) (w1 := [(r0, .inr (2, [.ref a5, .ref b5, .ref v5, .int (nI (n + 1))])), (a5, .inl (cI, cap5, .inl fa5)), (b5, .inl (cI, cap5, .inl fb5)), (v5, .inl (cJ, cap5, .inr (.inl fv5)))]) hP hD [1, 2, 3, 4] [0] rfl rfl (by decide) (by decide) hkk1 hFc hP1 hD1
    generalize H1 = H at hP hS ⊢
    have hP : va_P D vwCl [(y, .inr (3, [.ref r0, .ref r1, .ref r2, .ref r3, .ref r4, .ref r5, .ref wd, .ref tp, .int (nI wm), .int (nI tm)])), (r0, .inr (2, [.ref a5, .ref b5, .ref v5, .int (nI (n + 1))])), (a5, .inl (cI, cap5, .inl fa5)), (b5, .inl (cI, cap5, .inl fb5)), (v5, .inl (cJ, cap5, .inr (.inl fv5)))] H := hP.sub [0, 1, 2, 3, 4] rfl
    have hD : va_D A [(y, .inr (3, [.ref r0, .ref r1, .ref r2, .ref r3, .ref r4, .ref r5, .ref wd, .ref tp, .int (nI wm), .int (nI tm)])), (r0, .inr (2, [.ref a5, .ref b5, .ref v5, .int (nI (n + 1))])), (a5, .inl (cI, cap5, .inl fa5)), (b5, .inl (cI, cap5, .inl fb5)), (v5, .inl (cJ, cap5, .inr (.inl fv5)))] := hD.sub [0, 1, 2, 3, 4] (by decide) rfl
    obtain ⟨had, hca, hcb, hcc, hcd⟩ := hr_3
    refine lv_aload_n hx hb dX3_add_26 rfl (lv_at hl 1 rfl) ?_
    refine va_get (D := D) (ci := 3) (v := .ref r0) (C := RX3) (T := TX3) (N := 10) hx hb hts lk1 hown hK hP 0 rfl rfl 0 (by decide) lk0 (fun _ h9 => h9) rfl dX3_add_27 ?_
    refine va_get (D := D) (ci := 2) (v := .int (nI (n + 1))) (C := RX2) (T := TX2) (N := 4) hx hb hts lk3 hown hK hP 1 rfl rfl 3 (by decide) lk4 (fun _ h9 => h9) rfl dX3_add_30 ?_
    refine lv_iconst (v := nI 1) hx hb dX3_add_33 (by decide) ?_
    refine z_isub hx hb dX3_add_34 (by omega) ?_
    refine z_topi (y := nI n) (congrArg nI (Nat.add_sub_cancel n 1)) ?_
    refine lv_istore (lv' := [(4, .int (nI n)), (0, .ref y), (1, .int a), (2, .int b), (3, .int z)]) hx hb dX3_add_35 hl (by decide) rfl (fun ls hl => ?_)
    refine lv_aload_n hx hb dX3_add_37 rfl (lv_at hl 1 rfl) ?_
    refine va_get (D := D) (ci := 3) (v := .ref r0) (C := RX3) (T := TX3) (N := 10) hx hb hts lk1 hown hK hP 0 rfl rfl 0 (by decide) lk0 (fun _ h9 => h9) rfl dX3_add_38 ?_
    refine va_get (D := D) (ci := 2) (v := .ref v5) (C := RX2) (T := TX2) (N := 4) hx hb hts lk3 hown hK hP 1 rfl rfl 2 (by decide) lk2 (fun _ h9 => h9) rfl dX3_add_41 ?_
    refine lv_iload hx hb dX3_add_44 (lv_at hl 0 rfl) ?_
    refine lv_dup2_11 hx hb dX3_add_46 rfl rfl ?_
    refine z_lald hx hb hK hP 4 rfl (j := n) (by omega) (by omega) dX3_add_47 ?_
    refine lv_iload_n hx hb dX3_add_48 rfl (lv_at hl 4 rfl) ?_
    refine lv_i2l (v := z.toInt64) hx hb dX3_add_49 rfl ?_
    refine lv_ladd hx hb dX3_add_50 ?_
    refine z_last hx hb hK hP hD hS 4 rfl (j := n) (by omega) (by omega) dX3_add_51 (fun H locs hP hD hS => ?_)
    have hP : va_P D vwCl [(y, .inr (3, [.ref r0, .ref r1, .ref r2, .ref r3, .ref r4, .ref r5, .ref wd, .ref tp, .int (nI wm), .int (nI tm)])), (r0, .inr (2, [.ref a5, .ref b5, .ref v5, .int (nI (n + 1))])), (a5, .inl (cI, cap5, .inl fa5)), (b5, .inl (cI, cap5, .inl fb5)), (v5, .inl (cJ, cap5, .inr (.inl (vp_updL fv5 n ((fv5 n) + z.toInt64)))))] H := hP
    have hD : va_D A [(y, .inr (3, [.ref r0, .ref r1, .ref r2, .ref r3, .ref r4, .ref r5, .ref wd, .ref tp, .int (nI wm), .int (nI tm)])), (r0, .inr (2, [.ref a5, .ref b5, .ref v5, .int (nI (n + 1))])), (a5, .inl (cI, cap5, .inl fa5)), (b5, .inl (cI, cap5, .inl fb5)), (v5, .inl (cJ, cap5, .inr (.inl (vp_updL fv5 n ((fv5 n) + z.toInt64)))))] := hD
    refine lv_aload_n hx hb dX3_add_52 rfl (lv_at hl 1 rfl) ?_
    refine va_get (D := D) (ci := 3) (v := .ref r0) (C := RX3) (T := TX3) (N := 10) hx hb hts lk1 hown hK hP 0 rfl rfl 0 (by decide) lk0 (fun _ h9 => h9) rfl dX3_add_53 ?_
    refine va_get (D := D) (ci := 2) (v := .ref v5) (C := RX2) (T := TX2) (N := 4) hx hb hts lk3 hown hK hP 1 rfl rfl 2 (by decide) lk2 (fun _ h9 => h9) rfl dX3_add_56 ?_
    refine lv_iload hx hb dX3_add_59 (lv_at hl 0 rfl) ?_
    refine z_lald hx hb hK hP 4 rfl (j := n) (by omega) (by omega) dX3_add_61 ?_
    refine W.widen (k := 3) (n := 6600) (by omega) (by omega) ?_
    exact W.lret (v := (vp_updL fv5 n ((fv5 n) + z.toInt64)) n) hx hb hr (fun t ht hW => ⟨⟨(vp_updL fv5 n ((fv5 n) + z.toInt64)) n, (a5, b5, v5, cap5, n + 1, fa5, fb5, vp_updL fv5 n ((fv5 n) + z.toInt64)), rfl, ⟨⟨hca, hcb, by omega⟩, Or.inr ⟨hnf, pk_uLs.trans (rl_aset (rl_len _ _ _ _) had).2, (rl_aset (rl_len _ _ _ _) had).1⟩⟩, by rw [ht]; exact (hP.sub [0, 1, 2, 3, 4] rfl), va_K.moved hW.alike hK, (hD.sub [0, 1, 2, 3, 4] (by decide) rfl)⟩, hS.F ht⟩) hS.2.2 dX3_add_62

set_option maxHeartbeats 4000000 in
set_option maxRecDepth 100000 in
theorem c_X3_drop (l : Launch) (D : va_G) (cI cJ : ClassId) (y r0 r1 r2 r3 r4 r5 wd tp wm tm : Nat) (a0 b0 v0 cap n : Nat) (fa fb : Nat → Int32) (fv : Nat → Int64) (hn : n ≤ cap) (hc : cap ≤ 1100) (h16 : 16 ≤ cap) (a b : Int32) (sz : Nat) : Met l yX3_drop wsX3_drop { frames := 1, cells := 0, slots := 0, locals := 23 } (va_Pc [.ref y, .int a, .int b] (wP D cI cJ [(y, .inr (3, [.ref r0, .ref r1, .ref r2, .ref r3, .ref r4, .ref r5, .ref wd, .ref tp, .int (nI wm), .int (nI tm)])), (r0, .inr (2, [.ref a0, .ref b0, .ref v0, .int (nI n)])), (a0, .inl (cI, cap, .inl fa)), (b0, .inl (cI, cap, .inl fb)), (v0, .inl (cJ, cap, .inr (.inl fv)))] sz)) (va_Ql (fun r (u : Nat × Nat × Nat × Nat × Nat × (Nat → Int32) × (Nat → Int32) × (Nat → Int64)) => match u with | (a', b', v', cap', n', fa', fb', fv') => ROK n' cap' ∧ (DrL (rl n fa fb fv) a b r (rl n' fa' fb' fv'))) (wB D cI cJ (va_A [(y, .inr (3, [.ref r0, .ref r1, .ref r2, .ref r3, .ref r4, .ref r5, .ref wd, .ref tp, .int (nI wm), .int (nI tm)])), (r0, .inr (2, [.ref a0, .ref b0, .ref v0, .int (nI n)])), (a0, .inl (cI, cap, .inl fa)), (b0, .inl (cI, cap, .inl fb)), (v0, .inl (cJ, cap, .inr (.inl fv)))] sz) (fun (a', b', v', cap', n', fa', fb', fv') => [(y, .inr (3, [.ref r0, .ref r1, .ref r2, .ref r3, .ref r4, .ref r5, .ref wd, .ref tp, .int (nI wm), .int (nI tm)])), (r0, .inr (2, [.ref a', .ref b', .ref v', .int (nI n')])), (a', .inl (cI, cap', .inl fa')), (b', .inl (cI, cap', .inl fb')), (v', .inl (cJ, cap', .inr (.inl fv')))])) (va_A [(y, .inr (3, [.ref r0, .ref r1, .ref r2, .ref r3, .ref r4, .ref r5, .ref wd, .ref tp, .int (nI wm), .int (nI tm)])), (r0, .inr (2, [.ref a0, .ref b0, .ref v0, .int (nI n)])), (a0, .inl (cI, cap, .inl fa)), (b0, .inl (cI, cap, .inl fb)), (v0, .inl (cJ, cap, .inr (.inl fv)))] sz)) 0 0 (va_A [(y, .inr (3, [.ref r0, .ref r1, .ref r2, .ref r3, .ref r4, .ref r5, .ref wd, .ref tp, .int (nI wm), .int (nI tm)])), (r0, .inr (2, [.ref a0, .ref b0, .ref v0, .int (nI n)])), (a0, .inl (cI, cap, .inl fa)), (b0, .inl (cI, cap, .inl fb)), (v0, .inl (cJ, cap, .inr (.inl fv)))] sz) := by
  refine Met.ofW (cc := cX3_drop) (maxL := 6) (ret := (some .long)) (by decide) rfl ?_
  intro p e s m args below meth c s₁ B hml hv
  obtain ⟨rfl, hsz, hP, hK, hD0⟩ := hv
  have hx := B.exec
  have hb := B.bytes
  have hr := B.returns
  have hts := atoms_spec (ws := wsX3_drop) B.pre
  have hown : s.vm.findClass RX3 = some m.cls := findClass_of_methodNamed B.named
  have hlocks := B.notSynchronized
  have lk0 := hts (.fieldLink RX3 10 "KeyHallModel" "counts" "LKeyHallModel$Rows;") (by decide +kernel)
  have lk1 : ∀ w ∈ wsX30, w ∈ wsX3_drop := by decide +kernel
  subst hsz
  have hD := hD0.self (sz := s.heap.size)
  generalize hAe : va_A [(y, .inr (3, [.ref r0, .ref r1, .ref r2, .ref r3, .ref r4, .ref r5, .ref wd, .ref tp, .int (nI wm), .int (nI tm)])), (r0, .inr (2, [.ref a0, .ref b0, .ref v0, .int (nI n)])), (a0, .inl (cI, cap, .inl fa)), (b0, .inl (cI, cap, .inl fb)), (v0, .inl (cJ, cap, .inr (.inl fv)))] s.heap.size = A at hD ⊢
  have hA : ∀ q : Nat, s.heap.size ≤ q → A q := fun q h => by rw [← hAe]; exact Or.inr h
  have hS : va_S A s.heap s.heap [] := va_S.rf
  have hP : va_P D vwCl [(y, .inr (3, [.ref r0, .ref r1, .ref r2, .ref r3, .ref r4, .ref r5, .ref wd, .ref tp, .int (nI wm), .int (nI tm)])), (r0, .inr (2, [.ref a0, .ref b0, .ref v0, .int (nI n)])), (a0, .inl (cI, cap, .inl fa)), (b0, .inl (cI, cap, .inl fb)), (v0, .inl (cJ, cap, .inr (.inl fv)))] s.heap := hP
  have hl := lv_entry ([.ref y, .int a, .int b]) (n := 6) (Nat.le_of_ble_eq_true rfl)
  rw [lg_entry_eq]
  generalize (lg_sl ([.ref y, .int a, .int b]) ++ List.replicate (6 - (lg_sl ([.ref y, .int a, .int b])).length) Slot.unset).toArray = ls at hl ⊢
  have hl : lv_has ls 6 [(0, .ref y), (1, .int a), (2, .int b)] := hl
  refine lv_aload_n hx hb dX3_drop_0 rfl (lv_at hl 0 rfl) ?_
  refine va_get (D := D) (ci := 3) (v := .ref r0) (C := RX3) (T := TX3) (N := 10) hx hb hts lk1 hown hK hP 0 rfl rfl 0 (by decide) lk0 (fun _ h9 => h9) rfl dX3_drop_1 ?_
  refine lv_iload_n hx hb dX3_drop_4 rfl (lv_at hl 1 rfl) ?_
  refine lv_iload_n hx hb dX3_drop_5 rfl (lv_at hl 2 rfl) ?_
  refine vp_callSi (va_Run.run (va_runV (As := [.int a, .int b]) (rest := []) ⟨hx, hb, hml, hown, hts⟩ (c_X2_find l D cI cJ r0 a0 b0 v0 cap n fa fb fv a b (by omega) (by omega)) (cwV 2 hts gX3_drop_X2_find rfl rfl rfl (by decide +kernel) ⟨Nat.le_of_ble_eq_true rfl, Nat.le_of_ble_eq_true rfl⟩) (z_preV hK hP [1, 2, 3, 4] rfl 2 1 rfl rfl) rfl rfl hl.1 rfl (lv_room (Nat.le_of_ble_eq_true rfl)) dX3_drop_6 ⟨Nat.zero_le _, Nat.zero_le _⟩)) (fun r_1 hr_1 => ?_)
  rcases hr_1 with ⟨j_2, e_f, he, hea, heb, rfl⟩ | ⟨hnf, rfl⟩
  · obtain ⟨hj, hja, hjb, hjv⟩ := rl_lt he
    refine lv_istore_n (lv' := [(3, .int (nI j_2)), (0, .ref y), (1, .int a), (2, .int b)]) hx hb dX3_drop_9 rfl hl (by decide) rfl (fun ls hl => ?_)
    refine lv_aload_n hx hb dX3_drop_10 rfl (lv_at hl 1 rfl) ?_
    refine va_get (D := D) (ci := 3) (v := .ref r0) (C := RX3) (T := TX3) (N := 10) hx hb hts lk1 hown hK hP 0 rfl rfl 0 (by decide) lk0 (fun _ h9 => h9) rfl dX3_drop_11 ?_
    refine lv_iload_n hx hb dX3_drop_14 rfl (lv_at hl 0 rfl) ?_
    refine vp_callSl (va_Run.run (va_runS (As := [.ref r0, .int (nI j_2)]) (rest := []) ⟨hx, hb, hml, hown, hts⟩ (c_X3_told l D cI cJ r0 a0 b0 v0 cap n fa fb fv (nI j_2) (by omega) (by omega) (Or.inr ⟨_, by omega, rfl⟩)) (va_cwS 2 hts gX3_drop_X3_told rfl rfl rfl (by decide +kernel) ⟨Nat.le_of_ble_eq_true rfl, Nat.le_of_ble_eq_true rfl⟩) (z_preS hK hP [1, 2, 3, 4] rfl) rfl rfl hl.1 rfl (lv_room (Nat.le_of_ble_eq_true rfl)) dX3_drop_15 ⟨Nat.zero_le _, Nat.zero_le _⟩)) (fun r_3 hr_3 => ?_)
    replace hr_3 := hr_3.symm
    subst hr_3
    refine z_topl (y := fv j_2) (tld_N (by omega)) ?_
    refine lv_lstore (lv' := [(4, .long (fv j_2)), (3, .int (nI j_2)), (0, .ref y), (1, .int a), (2, .int b)]) hx hb dX3_drop_18 hl (by decide) rfl (fun ls hl => ?_)
    refine lv_iload_n hx hb dX3_drop_20 rfl (lv_at hl 1 rfl) ?_
    refine z_if_lt (tgt := 32) hx hb dX3_drop_21 (by decide) (by omega) ?_
    refine lv_aload_n hx hb dX3_drop_24 rfl (lv_at hl 2 rfl) ?_
    refine va_get (D := D) (ci := 3) (v := .ref r0) (C := RX3) (T := TX3) (N := 10) hx hb hts lk1 hown hK hP 0 rfl rfl 0 (by decide) lk0 (fun _ h9 => h9) rfl dX3_drop_25 ?_
    refine lv_iload_n hx hb dX3_drop_28 rfl (lv_at hl 1 rfl) ?_
    have hFc := va_free (wc := [(r0, .inr (2, [.ref a0, .ref b0, .ref v0, .int (nI n)])), (a0, .inl (cI, cap, .inl fa)), (b0, .inl (cI, cap, .inl fb)), (v0, .inl (cJ, cap, .inr (.inl fv)))]) hD hS hA [1, 2, 3, 4] rfl
    refine va_callv (va_runV (As := [.int (nI j_2)]) (rest := []) ⟨hx, hb, hml, hown, hts⟩ (c_X2_remove l D cI cJ r0 a0 b0 v0 cap n fa fb fv j_2 (by omega) (by omega) (by omega) s.heap.size) (cwV 1 hts gX3_drop_X2_remove rfl rfl rfl (by decide +kernel) ⟨Nat.le_of_ble_eq_true rfl, Nat.le_of_ble_eq_true rfl⟩) (z_preVw hK hP hD [1, 2, 3, 4] (by decide) rfl rfl 2 1 rfl rfl) rfl rfl hl.1 rfl (lv_room (Nat.le_of_ble_eq_true rfl)) dX3_drop_29 ⟨Nat.zero_le _, Nat.zero_le _⟩) hS (fun q _ h => hFc q h) hFc (fun u_5 t H1 locs ht hvm hr_4 hB hzz1 hkk1 hS => ?_)
    obtain ⟨hP1, hK1, hD1⟩ := hB
    rw [ht] at hP1
    try dsimp only at hr_4
    obtain ⟨hP, hD⟩ := va_join (wr := [(y, .inr (3, [.ref r0, .ref r1, .ref r2, .ref r3, .ref r4, .ref r5, .ref wd, .ref tp, .int (nI wm), .int (nI tm)]))]) (w1 := [(r0, .inr (2, [.ref a0, .ref b0, .ref v0, .int (nI (n - 1))])), (a0, .inl (cI, cap, .inl (shf fa j_2 (n - 1)))), (b0, .inl (cI, cap, .inl (shf fb j_2 (n - 1)))), (v0, .inl (cJ, cap, .inr (.inl (shf fv j_2 (n - 1)))))]) hP hD [1, 2, 3, 4] [0] rfl rfl (by decide) (by decide) hkk1 hFc hP1 hD1
    generalize H1 = H at hP hS ⊢
    have hP : va_P D vwCl [(y, .inr (3, [.ref r0, .ref r1, .ref r2, .ref r3, .ref r4, .ref r5, .ref wd, .ref tp, .int (nI wm), .int (nI tm)])), (r0, .inr (2, [.ref a0, .ref b0, .ref v0, .int (nI (n - 1))])), (a0, .inl (cI, cap, .inl (shf fa j_2 (n - 1)))), (b0, .inl (cI, cap, .inl (shf fb j_2 (n - 1)))), (v0, .inl (cJ, cap, .inr (.inl (shf fv j_2 (n - 1)))))] H := hP.sub [0, 1, 2, 3, 4] rfl
    have hD : va_D A [(y, .inr (3, [.ref r0, .ref r1, .ref r2, .ref r3, .ref r4, .ref r5, .ref wd, .ref tp, .int (nI wm), .int (nI tm)])), (r0, .inr (2, [.ref a0, .ref b0, .ref v0, .int (nI (n - 1))])), (a0, .inl (cI, cap, .inl (shf fa j_2 (n - 1)))), (b0, .inl (cI, cap, .inl (shf fb j_2 (n - 1)))), (v0, .inl (cJ, cap, .inr (.inl (shf fv j_2 (n - 1)))))] := hD.sub [0, 1, 2, 3, 4] (by decide) rfl
    refine lv_lload hx hb dX3_drop_32 (lv_at hl 0 rfl) ?_
    exact W.lret (v := fv j_2) hx hb hr (fun t ht hW => ⟨⟨fv j_2, (a0, b0, v0, cap, n - 1, shf fa j_2 (n - 1), shf fb j_2 (n - 1), shf fv j_2 (n - 1)), rfl, ⟨⟨by omega, h16, hc⟩, Or.inl ⟨j_2, e_f, he, hea, heb, hjv, rl_era hj⟩⟩, by rw [ht]; exact hP, va_K.moved hW.alike hK, hD⟩, hS.F ht⟩) hS.2.2 dX3_drop_34
  · refine lv_istore_n (lv' := [(3, .int (-1)), (0, .ref y), (1, .int a), (2, .int b)]) hx hb dX3_drop_9 rfl hl (by decide) rfl (fun ls hl => ?_)
    refine lv_aload_n hx hb dX3_drop_10 rfl (lv_at hl 1 rfl) ?_
    refine va_get (D := D) (ci := 3) (v := .ref r0) (C := RX3) (T := TX3) (N := 10) hx hb hts lk1 hown hK hP 0 rfl rfl 0 (by decide) lk0 (fun _ h9 => h9) rfl dX3_drop_11 ?_
    refine lv_iload_n hx hb dX3_drop_14 rfl (lv_at hl 0 rfl) ?_
    refine vp_callSl (va_Run.run (va_runS (As := [.ref r0, .int (-1)]) (rest := []) ⟨hx, hb, hml, hown, hts⟩ (c_X3_told l D cI cJ r0 a0 b0 v0 cap n fa fb fv (-1) (by omega) (by omega) (Or.inl rfl)) (va_cwS 2 hts gX3_drop_X3_told rfl rfl rfl (by decide +kernel) ⟨Nat.le_of_ble_eq_true rfl, Nat.le_of_ble_eq_true rfl⟩) (z_preS hK hP [1, 2, 3, 4] rfl) rfl rfl hl.1 rfl (lv_room (Nat.le_of_ble_eq_true rfl)) dX3_drop_15 ⟨Nat.zero_le _, Nat.zero_le _⟩)) (fun r_6 hr_6 => ?_)
    replace hr_6 := hr_6.symm
    subst hr_6
    refine z_topl (y := NO) (tld_m) ?_
    refine lv_lstore (lv' := [(4, .long NO), (3, .int (-1)), (0, .ref y), (1, .int a), (2, .int b)]) hx hb dX3_drop_18 hl (by decide) rfl (fun ls hl => ?_)
    refine lv_iload_n hx hb dX3_drop_20 rfl (lv_at hl 1 rfl) ?_
    refine lv_if_lt (tgt := 32) hx hb dX3_drop_21 (by decide) (fun _ => ?_) (fun q => absurd (by decide) q)
    refine lv_lload hx hb dX3_drop_32 (lv_at hl 0 rfl) ?_
    exact W.lret (v := NO) hx hb hr (fun t ht hW => ⟨⟨NO, (a0, b0, v0, cap, n, fa, fb, fv), rfl, ⟨⟨hn, h16, hc⟩, Or.inr ⟨hnf, rfl, rfl⟩⟩, by rw [ht]; exact hP, va_K.moved hW.alike hK, hD⟩, hS.F ht⟩) hS.2.2 dX3_drop_34

set_option maxHeartbeats 4000000 in
set_option maxRecDepth 100000 in
theorem c_X3_total (l : Launch) (D : va_G) (cI cJ : ClassId) (y r0 r1 r2 r3 r4 r5 wd tp wm tm : Nat) (a0 b0 v0 cap n : Nat) (fa fb : Nat → Int32) (fv : Nat → Int64) (hn : n ≤ cap) (hc : cap ≤ 1100) (h16 : 16 ≤ cap) : Met l yX3_total wsX3_total { frames := 0, cells := 0, slots := 0, locals := 0 } (va_Pc [.ref y] (rP D cI cJ [(y, .inr (3, [.ref r0, .ref r1, .ref r2, .ref r3, .ref r4, .ref r5, .ref wd, .ref tp, .int (nI wm), .int (nI tm)])), (r0, .inr (2, [.ref a0, .ref b0, .ref v0, .int (nI n)])), (a0, .inl (cI, cap, .inl fa)), (b0, .inl (cI, cap, .inl fb)), (v0, .inl (cJ, cap, .inr (.inl fv)))])) (vp_Sl (fun r => r = totF fa fb fv n)) 0 0 (fun _ => False) := by
  refine Met.ofW (cc := cX3_total) (maxL := 4) (ret := (some .long)) (by decide) rfl ?_
  intro p e s m args below meth c s₁ B hml hv
  obtain ⟨rfl, hP, hK⟩ := hv
  have hx := B.exec
  have hb := B.bytes
  have hr := B.returns
  have hts := atoms_spec (ws := wsX3_total) B.pre
  have hown : s.vm.findClass RX3 = some m.cls := findClass_of_methodNamed B.named
  have hlocks := B.notSynchronized
  have lk0 := hts (.fieldLink RX3 10 "KeyHallModel" "counts" "LKeyHallModel$Rows;") (by decide +kernel)
  have lk1 : ∀ w ∈ wsX30, w ∈ wsX3_total := by decide +kernel
  have lk2 := hts (.fieldLink RX3 46 "KeyHallModel$Rows" "many" "I") (by decide +kernel)
  have lk3 : ∀ w ∈ wsX20, w ∈ wsX3_total := by decide +kernel
  have lk4 := hts (.constantLong RX3 64 (31)) (by decide +kernel)
  have lk5 := hts (.fieldLink RX3 66 "KeyHallModel$Rows" "a" "[I") (by decide +kernel)
  have lk6 := hts (.fieldLink RX3 69 "KeyHallModel$Rows" "b" "[I") (by decide +kernel)
  have lk7 := hts (.fieldLink RX3 50 "KeyHallModel$Rows" "v" "[J") (by decide +kernel)
  have hl := lv_entry ([.ref y]) (n := 4) (Nat.le_of_ble_eq_true rfl)
  rw [lg_entry_eq]
  generalize (lg_sl ([.ref y]) ++ List.replicate (4 - (lg_sl ([.ref y])).length) Slot.unset).toArray = ls at hl ⊢
  have hl : lv_has ls 4 [(0, .ref y)] := hl
  refine lv_lconst (v := 0) hx hb dX3_total_0 (by decide) ?_
  refine lv_lstore_n (lv' := [(1, .long 0), (0, .ref y)]) hx hb dX3_total_1 rfl hl (by decide) rfl (fun ls hl => ?_)
  refine lv_iconst (v := nI 0) hx hb dX3_total_2 (by decide) ?_
  refine lv_istore_n (lv' := [(3, .int (nI 0)), (1, .long 0), (0, .ref y)]) hx hb dX3_total_3 rfl hl (by decide) rfl (fun ls hl => ?_)
  refine z_loop (σ := Nat) (fun i => n - i) (fun i ls => lv_has ls 4 [(0, .ref y), (1, .long (totF fa fb fv i)), (3, .int (nI i))] ∧ (i ≤ n)) ?_ (0) _ ⟨lv_sub hl [2, 1, 0] rfl, Nat.zero_le _⟩
  rintro i ls ⟨hl, hi⟩ ih
  have hl : lv_has ls 4 [(0, .ref y), (1, .long (totF fa fb fv i)), (3, .int (nI i))] := hl
  refine lv_iload_n hx hb dX3_total_4 rfl (lv_at hl 2 rfl) ?_
  refine lv_aload_n hx hb dX3_total_5 rfl (lv_at hl 0 rfl) ?_
  refine va_get (D := D) (ci := 3) (v := .ref r0) (C := RX3) (T := TX3) (N := 10) hx hb hts lk1 hown hK hP 0 rfl rfl 0 (by decide) lk0 (fun _ h9 => h9) rfl dX3_total_6 ?_
  refine va_get (D := D) (ci := 2) (v := .int (nI n)) (C := RX2) (T := TX2) (N := 4) hx hb hts lk3 hown hK hP 1 rfl rfl 3 (by decide) lk2 (fun _ h9 => h9) rfl dX3_total_9 ?_
  refine z_icmp_ge (tgt := 59) hx hb dX3_total_12 (by decide) (by omega) (by omega) (fun c_12 => ?_) (fun c_12 => ?_)
  · refine lv_lload_n hx hb dX3_total_59 rfl (lv_at hl 1 rfl) ?_
    exact W.lret (v := totF fa fb fv i) hx hb hr (fun t ht hW => ⟨totF fa fb fv i, rfl, by rw [Nat.le_antisymm hi c_12], ht⟩) (fun _ h => nomatch h) dX3_total_60
  · refine lv_lload_n hx hb dX3_total_15 rfl (lv_at hl 1 rfl) ?_
    refine lv_ldc2 hx hb hown lk4 dX3_total_16 ?_
    refine lv_aload_n hx hb dX3_total_19 rfl (lv_at hl 0 rfl) ?_
    refine va_get (D := D) (ci := 3) (v := .ref r0) (C := RX3) (T := TX3) (N := 10) hx hb hts lk1 hown hK hP 0 rfl rfl 0 (by decide) lk0 (fun _ h9 => h9) rfl dX3_total_20 ?_
    refine va_get (D := D) (ci := 2) (v := .ref a0) (C := RX2) (T := TX2) (N := 4) hx hb hts lk3 hown hK hP 1 rfl rfl 0 (by decide) lk5 (fun _ h9 => h9) rfl dX3_total_23 ?_
    refine lv_iload_n hx hb dX3_total_26 rfl (lv_at hl 2 rfl) ?_
    refine z_iald hx hb hK hP 2 rfl (j := i) (by omega) (by omega) dX3_total_27 ?_
    refine lv_i2l (v := (fa i).toInt64) hx hb dX3_total_28 rfl ?_
    refine lv_lmul hx hb dX3_total_29 ?_
    refine lv_aload_n hx hb dX3_total_30 rfl (lv_at hl 0 rfl) ?_
    refine va_get (D := D) (ci := 3) (v := .ref r0) (C := RX3) (T := TX3) (N := 10) hx hb hts lk1 hown hK hP 0 rfl rfl 0 (by decide) lk0 (fun _ h9 => h9) rfl dX3_total_31 ?_
    refine va_get (D := D) (ci := 2) (v := .ref b0) (C := RX2) (T := TX2) (N := 4) hx hb hts lk3 hown hK hP 1 rfl rfl 1 (by decide) lk6 (fun _ h9 => h9) rfl dX3_total_34 ?_
    refine lv_iload_n hx hb dX3_total_37 rfl (lv_at hl 2 rfl) ?_
    refine z_iald hx hb hK hP 3 rfl (j := i) (by omega) (by omega) dX3_total_38 ?_
    refine lv_i2l (v := (fb i).toInt64) hx hb dX3_total_39 rfl ?_
    refine lv_ladd hx hb dX3_total_40 ?_
    refine lv_aload_n hx hb dX3_total_41 rfl (lv_at hl 0 rfl) ?_
    refine va_get (D := D) (ci := 3) (v := .ref r0) (C := RX3) (T := TX3) (N := 10) hx hb hts lk1 hown hK hP 0 rfl rfl 0 (by decide) lk0 (fun _ h9 => h9) rfl dX3_total_42 ?_
    refine va_get (D := D) (ci := 2) (v := .ref v0) (C := RX2) (T := TX2) (N := 4) hx hb hts lk3 hown hK hP 1 rfl rfl 2 (by decide) lk7 (fun _ h9 => h9) rfl dX3_total_45 ?_
    refine lv_iload_n hx hb dX3_total_48 rfl (lv_at hl 2 rfl) ?_
    refine z_lald hx hb hK hP 4 rfl (j := i) (by omega) (by omega) dX3_total_49 ?_
    refine lv_lmul hx hb dX3_total_50 ?_
    refine lv_ladd hx hb dX3_total_51 ?_
    refine lv_lstore_n (lv' := [(1, .long ((totF fa fb fv i) + (((31 * ((fa i).toInt64)) + ((fb i).toInt64)) * (fv i)))), (0, .ref y), (3, .int (nI i))]) hx hb dX3_total_52 rfl hl (by decide) rfl (fun ls hl => ?_)
    refine lv_iinc (v := nI (i + 1)) (lv' := [(3, .int (nI (i + 1))), (1, .long ((totF fa fb fv i) + (((31 * ((fa i).toInt64)) + ((fb i).toInt64)) * (fv i)))), (0, .ref y)]) hx hb dX3_total_53 hl (k := 2) rfl (nI_add i 1) (by decide) rfl (fun ls hl => ?_)
    refine lv_goto (tgt := 4) hx hb dX3_total_56 (by decide) ?_
    exact ih (i + 1) _ ⟨lv_sub hl [2, 1, 0] rfl, by omega⟩ (by first | omega | (dsimp only; omega))

set_option maxHeartbeats 4000000 in
set_option maxRecDepth 100000 in
theorem c_X3_sweep (l : Launch) (D : va_G) (cI cJ : ClassId) (y r0 r1 r2 r3 r4 r5 wd tp wm tm : Nat) (a0 b0 v0 cap n : Nat) (fa fb : Nat → Int32) (fv : Nat → Int64) (hn : n ≤ cap) (hc : cap ≤ 1100) (h16 : 16 ≤ cap)  (sz : Nat) : Met l yX3_sweep wsX3_sweep { frames := 1, cells := 0, slots := 0, locals := 22 } (va_Pc [.ref y] (wP D cI cJ [(y, .inr (3, [.ref r0, .ref r1, .ref r2, .ref r3, .ref r4, .ref r5, .ref wd, .ref tp, .int (nI wm), .int (nI tm)])), (r0, .inr (2, [.ref a0, .ref b0, .ref v0, .int (nI n)])), (a0, .inl (cI, cap, .inl fa)), (b0, .inl (cI, cap, .inl fb)), (v0, .inl (cJ, cap, .inr (.inl fv)))] sz)) (va_Qi (fun r (u : Nat × Nat × Nat × Nat × Nat × (Nat → Int32) × (Nat → Int32) × (Nat → Int64)) => match u with | (a', b', v', cap', n', fa', fb', fv') => ROK n' cap' ∧ ((rl n' fa' fb' fv') = (rl n fa fb fv).filter (fun e => pB (¬ evR e)) ∧ r = nI (n - n'))) (wB D cI cJ (va_A [(y, .inr (3, [.ref r0, .ref r1, .ref r2, .ref r3, .ref r4, .ref r5, .ref wd, .ref tp, .int (nI wm), .int (nI tm)])), (r0, .inr (2, [.ref a0, .ref b0, .ref v0, .int (nI n)])), (a0, .inl (cI, cap, .inl fa)), (b0, .inl (cI, cap, .inl fb)), (v0, .inl (cJ, cap, .inr (.inl fv)))] sz) (fun (a', b', v', cap', n', fa', fb', fv') => [(y, .inr (3, [.ref r0, .ref r1, .ref r2, .ref r3, .ref r4, .ref r5, .ref wd, .ref tp, .int (nI wm), .int (nI tm)])), (r0, .inr (2, [.ref a', .ref b', .ref v', .int (nI n')])), (a', .inl (cI, cap', .inl fa')), (b', .inl (cI, cap', .inl fb')), (v', .inl (cJ, cap', .inr (.inl fv')))])) (va_A [(y, .inr (3, [.ref r0, .ref r1, .ref r2, .ref r3, .ref r4, .ref r5, .ref wd, .ref tp, .int (nI wm), .int (nI tm)])), (r0, .inr (2, [.ref a0, .ref b0, .ref v0, .int (nI n)])), (a0, .inl (cI, cap, .inl fa)), (b0, .inl (cI, cap, .inl fb)), (v0, .inl (cJ, cap, .inr (.inl fv)))] sz)) 0 0 (va_A [(y, .inr (3, [.ref r0, .ref r1, .ref r2, .ref r3, .ref r4, .ref r5, .ref wd, .ref tp, .int (nI wm), .int (nI tm)])), (r0, .inr (2, [.ref a0, .ref b0, .ref v0, .int (nI n)])), (a0, .inl (cI, cap, .inl fa)), (b0, .inl (cI, cap, .inl fb)), (v0, .inl (cJ, cap, .inr (.inl fv)))] sz) := by
  refine Met.ofW (cc := cX3_sweep) (maxL := 3) (ret := (some .int)) (by decide) rfl ?_
  intro p e s m args below meth c s₁ B hml hv
  obtain ⟨rfl, hsz, hP, hK, hD0⟩ := hv
  have hx := B.exec
  have hb := B.bytes
  have hr := B.returns
  have hts := atoms_spec (ws := wsX3_sweep) B.pre
  have hown : s.vm.findClass RX3 = some m.cls := findClass_of_methodNamed B.named
  have hlocks := B.notSynchronized
  have lk0 := hts (.fieldLink RX3 10 "KeyHallModel" "counts" "LKeyHallModel$Rows;") (by decide +kernel)
  have lk1 : ∀ w ∈ wsX30, w ∈ wsX3_sweep := by decide +kernel
  have lk2 := hts (.fieldLink RX3 46 "KeyHallModel$Rows" "many" "I") (by decide +kernel)
  have lk3 : ∀ w ∈ wsX20, w ∈ wsX3_sweep := by decide +kernel
  have lk4 := hts (.fieldLink RX3 66 "KeyHallModel$Rows" "a" "[I") (by decide +kernel)
  have lk5 := hts (.fieldLink RX3 69 "KeyHallModel$Rows" "b" "[I") (by decide +kernel)
  subst hsz
  have hD := hD0.self (sz := s.heap.size)
  generalize hAe : va_A [(y, .inr (3, [.ref r0, .ref r1, .ref r2, .ref r3, .ref r4, .ref r5, .ref wd, .ref tp, .int (nI wm), .int (nI tm)])), (r0, .inr (2, [.ref a0, .ref b0, .ref v0, .int (nI n)])), (a0, .inl (cI, cap, .inl fa)), (b0, .inl (cI, cap, .inl fb)), (v0, .inl (cJ, cap, .inr (.inl fv)))] s.heap.size = A at hD ⊢
  have hA : ∀ q : Nat, s.heap.size ≤ q → A q := fun q h => by rw [← hAe]; exact Or.inr h
  have hS : va_S A s.heap s.heap [] := va_S.rf
  have hP : va_P D vwCl [(y, .inr (3, [.ref r0, .ref r1, .ref r2, .ref r3, .ref r4, .ref r5, .ref wd, .ref tp, .int (nI wm), .int (nI tm)])), (r0, .inr (2, [.ref a0, .ref b0, .ref v0, .int (nI n)])), (a0, .inl (cI, cap, .inl fa)), (b0, .inl (cI, cap, .inl fb)), (v0, .inl (cJ, cap, .inr (.inl fv)))] s.heap := hP
  have hl := lv_entry ([.ref y]) (n := 3) (Nat.le_of_ble_eq_true rfl)
  rw [lg_entry_eq]
  generalize (lg_sl ([.ref y]) ++ List.replicate (3 - (lg_sl ([.ref y])).length) Slot.unset).toArray = ls at hl ⊢
  have hl : lv_has ls 3 [(0, .ref y)] := hl
  refine lv_iconst (v := nI 0) hx hb dX3_sweep_0 (by decide) ?_
  refine lv_istore_n (lv' := [(1, .int (nI 0)), (0, .ref y)]) hx hb dX3_sweep_1 rfl hl (by decide) rfl (fun ls hl => ?_)
  refine lv_aload_n hx hb dX3_sweep_2 rfl (lv_at hl 1 rfl) ?_
  refine va_get (D := D) (ci := 3) (v := .ref r0) (C := RX3) (T := TX3) (N := 10) hx hb hts lk1 hown hK hP 0 rfl rfl 0 (by decide) lk0 (fun _ h9 => h9) rfl dX3_sweep_3 ?_
  refine va_get (D := D) (ci := 2) (v := .int (nI n)) (C := RX2) (T := TX2) (N := 4) hx hb hts lk3 hown hK hP 1 rfl rfl 3 (by decide) lk2 (fun _ h9 => h9) rfl dX3_sweep_6 ?_
  refine lv_iconst (v := nI 1) hx hb dX3_sweep_9 (by decide) ?_
  refine lv_isub hx hb dX3_sweep_10 ?_
  refine z_topi (y := off n) (off_sub) ?_
  refine lv_istore_n (lv' := [(2, .int (off n)), (1, .int (nI 0)), (0, .ref y)]) hx hb dX3_sweep_11 rfl hl (by decide) rfl (fun ls hl => ?_)
  have hl : lv_has ls 3 [(2, .int (off n)), (1, .int (nI (n - n))), (0, .ref y)] := by rw [Nat.sub_self]; exact hl
  refine z_loopw (σ := Nat × Nat × (Nat → Int32) × (Nat → Int32) × (Nat → Int64)) (fun (k, m, fa1, fb1, fv1) => k) (fun (k, m, fa1, fb1, fv1) H locs ls => va_P D vwCl [(y, .inr (3, [.ref r0, .ref r1, .ref r2, .ref r3, .ref r4, .ref r5, .ref wd, .ref tp, .int (nI wm), .int (nI tm)])), (r0, .inr (2, [.ref a0, .ref b0, .ref v0, .int (nI m)])), (a0, .inl (cI, cap, .inl fa1)), (b0, .inl (cI, cap, .inl fb1)), (v0, .inl (cJ, cap, .inr (.inl fv1)))] H ∧ va_D A [(y, .inr (3, [.ref r0, .ref r1, .ref r2, .ref r3, .ref r4, .ref r5, .ref wd, .ref tp, .int (nI wm), .int (nI tm)])), (r0, .inr (2, [.ref a0, .ref b0, .ref v0, .int (nI m)])), (a0, .inl (cI, cap, .inl fa1)), (b0, .inl (cI, cap, .inl fb1)), (v0, .inl (cJ, cap, .inr (.inl fv1)))] ∧ va_S A s.heap H locs ∧ lv_has ls 3 [(0, .ref y), (1, .int (nI (n - m))), (2, .int (off k))] ∧ (k ≤ n) ∧ (m ≤ n) ∧ (FD (fun e => pB (¬ evR e)) (rl n fa fb fv) k (rl m fa1 fb1 fv1))) ?_ ((n, n, fa, fb, fv)) _ _ _ ⟨hP, hD, hS, lv_sub hl [2, 1, 0] rfl, Nat.le_refl _, Nat.le_refl _, by have h := FD.init (fun e => pB (¬ evR e)) (rl n fa fb fv); rw [rl_len] at h; exact h⟩
  rintro ⟨k, m, fa1, fb1, fv1⟩ H locs ls ⟨hP, hD, hS, hl, hkn, hmn, hF⟩ ih
  have hP : va_P D vwCl [(y, .inr (3, [.ref r0, .ref r1, .ref r2, .ref r3, .ref r4, .ref r5, .ref wd, .ref tp, .int (nI wm), .int (nI tm)])), (r0, .inr (2, [.ref a0, .ref b0, .ref v0, .int (nI m)])), (a0, .inl (cI, cap, .inl fa1)), (b0, .inl (cI, cap, .inl fb1)), (v0, .inl (cJ, cap, .inr (.inl fv1)))] H := hP
  have hl : lv_has ls 3 [(0, .ref y), (1, .int (nI (n - m))), (2, .int (off k))] := hl
  refine lv_iload_n hx hb dX3_sweep_12 rfl (lv_at hl 2 rfl) ?_
  refine lv_if_lt (tgt := 57) hx hb dX3_sweep_13 (by decide) (fun c_13 => ?_) (fun c_13 => ?_)
  · refine lv_iload_n hx hb dX3_sweep_57 rfl (lv_at hl 1 rfl) ?_
    exact W.iret (v := nI (n - m)) hx hb hr (fun t ht hW => ⟨⟨nI (n - m), (a0, b0, v0, cap, m, fa1, fb1, fv1), rfl, ⟨⟨by omega, h16, hc⟩, FD.fin (by rw [(off_neg (by omega)).mp c_13] at hF; exact hF), rfl⟩, by rw [ht]; exact hP, va_K.moved hW.alike hK, hD⟩, hS.F ht⟩) hS.2.2 dX3_sweep_58
  · obtain ⟨k1, rfl⟩ : ∃ k1, k = k1 + 1 := ⟨k - 1, by have h : ¬ k = 0 := fun q => c_13 ((off_neg (by omega)).mpr q); omega⟩
    rw [off_p k1] at hl
    have hFl := hF.len (by rw [rl_len]; omega)
    rw [rl_len, rl_len] at hFl
    have hFe : (rl m fa1 fb1 fv1)[k1]? = (rl n fa fb fv)[k1]? := hF.get (by rw [rl_len]; omega)
    rw [rl_get (show k1 < m by omega)] at hFe
    have hl : lv_has ls 3 [(0, .ref y), (1, .int (nI (n - m))), (2, .int (nI k1))] := hl
    refine lv_aload_n hx hb dX3_sweep_16 rfl (lv_at hl 0 rfl) ?_
    refine va_get (D := D) (ci := 3) (v := .ref r0) (C := RX3) (T := TX3) (N := 10) hx hb hts lk1 hown hK hP 0 rfl rfl 0 (by decide) lk0 (fun _ h9 => h9) rfl dX3_sweep_17 ?_
    refine va_get (D := D) (ci := 2) (v := .ref a0) (C := RX2) (T := TX2) (N := 4) hx hb hts lk3 hown hK hP 1 rfl rfl 0 (by decide) lk4 (fun _ h9 => h9) rfl dX3_sweep_20 ?_
    refine lv_iload_n hx hb dX3_sweep_23 rfl (lv_at hl 2 rfl) ?_
    refine z_iald hx hb hK hP 2 rfl (j := k1) (by omega) (by omega) dX3_sweep_24 ?_
    refine lv_aload_n hx hb dX3_sweep_25 rfl (lv_at hl 0 rfl) ?_
    refine va_get (D := D) (ci := 3) (v := .ref r0) (C := RX3) (T := TX3) (N := 10) hx hb hts lk1 hown hK hP 0 rfl rfl 0 (by decide) lk0 (fun _ h9 => h9) rfl dX3_sweep_26 ?_
    refine va_get (D := D) (ci := 2) (v := .ref b0) (C := RX2) (T := TX2) (N := 4) hx hb hts lk3 hown hK hP 1 rfl rfl 1 (by decide) lk5 (fun _ h9 => h9) rfl dX3_sweep_29 ?_
    refine lv_iload_n hx hb dX3_sweep_32 rfl (lv_at hl 2 rfl) ?_
    refine z_iald hx hb hK hP 3 rfl (j := k1) (by omega) (by omega) dX3_sweep_33 ?_
    refine lv_iadd hx hb dX3_sweep_34 ?_
    refine lv_iconst (v := nI 2) hx hb dX3_sweep_35 (by decide) ?_
    refine lv_irem hx hb dX3_sweep_36 (by decide) ?_
    refine lv_if_ne (tgt := 51) hx hb dX3_sweep_37 (by decide) (fun c_37 => ?_) (fun c_37 => ?_)
    · refine lv_iinc (v := off k1) (lv' := [(2, .int (off k1)), (0, .ref y), (1, .int (nI (n - m)))]) hx hb dX3_sweep_51 hl (k := 2) rfl (off_m k1) (by decide) rfl (fun ls hl => ?_)
      refine lv_goto (tgt := 12) hx hb dX3_sweep_54 (by decide) ?_
      exact ih ((k1, m, fa1, fb1, fv1)) _ _ _ ⟨hP, hD, hS, lv_sub hl [1, 2, 0] rfl, by omega, by omega, hF.keep hFe.symm (pB_t c_37)⟩ (by first | omega | (dsimp only; omega))
    · refine lv_aload_n hx hb dX3_sweep_40 rfl (lv_at hl 0 rfl) ?_
      refine va_get (D := D) (ci := 3) (v := .ref r0) (C := RX3) (T := TX3) (N := 10) hx hb hts lk1 hown hK hP 0 rfl rfl 0 (by decide) lk0 (fun _ h9 => h9) rfl dX3_sweep_41 ?_
      refine lv_iload_n hx hb dX3_sweep_44 rfl (lv_at hl 2 rfl) ?_
      have hFc := va_free (wc := [(r0, .inr (2, [.ref a0, .ref b0, .ref v0, .int (nI m)])), (a0, .inl (cI, cap, .inl fa1)), (b0, .inl (cI, cap, .inl fb1)), (v0, .inl (cJ, cap, .inr (.inl fv1)))]) hD hS hA [1, 2, 3, 4] rfl
      refine va_callv (va_runV (As := [.int (nI k1)]) (rest := []) ⟨hx, hb, hml, hown, hts⟩ (c_X2_remove l D cI cJ r0 a0 b0 v0 cap m fa1 fb1 fv1 k1 (by omega) (by omega) (by omega) H.size) (cwV 1 hts gX3_sweep_X2_remove rfl rfl rfl (by decide +kernel) ⟨Nat.le_of_ble_eq_true rfl, Nat.le_of_ble_eq_true rfl⟩) (z_preVw hK hP hD [1, 2, 3, 4] (by decide) rfl rfl 2 1 rfl rfl) rfl rfl hl.1 rfl (lv_room (Nat.le_of_ble_eq_true rfl)) dX3_sweep_45 ⟨Nat.zero_le _, Nat.zero_le _⟩) hS (fun q _ h => hFc q h) hFc (fun u_2 t H1 locs ht hvm hr_1 hB hzz1 hkk1 hS => ?_)
      obtain ⟨hP1, hK1, hD1⟩ := hB
      rw [ht] at hP1
      try dsimp only at hr_1
      obtain ⟨hP, hD⟩ := va_join (wr := [(y, .inr (3, [.ref r0, .ref r1, .ref r2, .ref r3, .ref r4, .ref r5, .ref wd, .ref tp, .int (nI wm), .int (nI tm)]))]) (w1 := [(r0, .inr (2, [.ref a0, .ref b0, .ref v0, .int (nI (m - 1))])), (a0, .inl (cI, cap, .inl (shf fa1 k1 (m - 1)))), (b0, .inl (cI, cap, .inl (shf fb1 k1 (m - 1)))), (v0, .inl (cJ, cap, .inr (.inl (shf fv1 k1 (m - 1)))))]) hP hD [1, 2, 3, 4] [0] rfl rfl (by decide) (by decide) hkk1 hFc hP1 hD1
      generalize H1 = H at hP hS ⊢
      have hP : va_P D vwCl [(y, .inr (3, [.ref r0, .ref r1, .ref r2, .ref r3, .ref r4, .ref r5, .ref wd, .ref tp, .int (nI wm), .int (nI tm)])), (r0, .inr (2, [.ref a0, .ref b0, .ref v0, .int (nI (m - 1))])), (a0, .inl (cI, cap, .inl (shf fa1 k1 (m - 1)))), (b0, .inl (cI, cap, .inl (shf fb1 k1 (m - 1)))), (v0, .inl (cJ, cap, .inr (.inl (shf fv1 k1 (m - 1)))))] H := hP.sub [0, 1, 2, 3, 4] rfl
      have hD : va_D A [(y, .inr (3, [.ref r0, .ref r1, .ref r2, .ref r3, .ref r4, .ref r5, .ref wd, .ref tp, .int (nI wm), .int (nI tm)])), (r0, .inr (2, [.ref a0, .ref b0, .ref v0, .int (nI (m - 1))])), (a0, .inl (cI, cap, .inl (shf fa1 k1 (m - 1)))), (b0, .inl (cI, cap, .inl (shf fb1 k1 (m - 1)))), (v0, .inl (cJ, cap, .inr (.inl (shf fv1 k1 (m - 1)))))] := hD.sub [0, 1, 2, 3, 4] (by decide) rfl
      refine lv_iinc (v := nI (n - m + 1)) (lv' := [(1, .int (nI (n - m + 1))), (0, .ref y), (2, .int (nI k1))]) hx hb dX3_sweep_48 hl (k := 1) rfl (nI_add (n - m) 1) (by decide) rfl (fun ls hl => ?_)
      rw [show n - m + 1 = n - (m - 1) by omega] at hl
      refine lv_iinc (v := off k1) (lv' := [(2, .int (off k1)), (1, .int (nI (n - (m - 1)))), (0, .ref y)]) hx hb dX3_sweep_51 hl (k := 2) rfl (off_m k1) (by decide) rfl (fun ls hl => ?_)
      refine lv_goto (tgt := 12) hx hb dX3_sweep_54 (by decide) ?_
      exact ih ((k1, m - 1, shf fa1 k1 (m - 1), shf fb1 k1 (m - 1), shf fv1 k1 (m - 1))) _ _ _ ⟨hP, hD, hS, lv_sub hl [2, 1, 0] rfl, by omega, by omega, by rw [rl_era (show k1 < m by omega)]; exact hF.del hFe.symm (pB_f (fun q => q c_37))⟩ (by first | omega | (dsimp only; omega))

set_option maxHeartbeats 4000000 in
set_option maxRecDepth 100000 in
theorem c_X3_come (l : Launch) (D : va_G) (cI cJ : ClassId) (y r0 r1 r2 r3 r4 r5 wd tp wm tm : Nat) (a0 b0 v0 cap n : Nat) (fa fb : Nat → Int32) (fv : Nat → Int64) (hn : n ≤ cap) (hc : cap ≤ 1100) (h16 : 16 ≤ cap) (hn5 : n ≤ 549) (a b : Int32) (sz : Nat) : Met l yX3_come wsX3_come { frames := 1, cells := 3, slots := 6600, locals := 28 } (va_Pc [.ref y, .int a, .int b] (wP D cI cJ [(y, .inr (3, [.ref r0, .ref r1, .ref r2, .ref r3, .ref r4, .ref r5, .ref wd, .ref tp, .int (nI wm), .int (nI tm)])), (r1, .inr (2, [.ref a0, .ref b0, .ref v0, .int (nI n)])), (a0, .inl (cI, cap, .inl fa)), (b0, .inl (cI, cap, .inl fb)), (v0, .inl (cJ, cap, .inr (.inl fv)))] sz)) (va_Qi (fun r (u : Nat × Nat × Nat × Nat × Nat × (Nat → Int32) × (Nat → Int32) × (Nat → Int64)) => match u with | (a', b', v', cap', n', fa', fb', fv') => ROK n' cap' ∧ (((∃ e, e ∈ (rl n fa fb fv) ∧ e.1 = a ∧ e.2.1 = b) ∧ (rl n' fa' fb' fv') = (rl n fa fb fv) ∧ r = nI 0) ∨ ((∀ e, e ∈ (rl n fa fb fv) → ¬ (e.1 = a ∧ e.2.1 = b)) ∧ (rl n' fa' fb' fv') = (rl n fa fb fv) ++ [(a, b, 0)] ∧ r = nI 1))) (wB D cI cJ (va_A [(y, .inr (3, [.ref r0, .ref r1, .ref r2, .ref r3, .ref r4, .ref r5, .ref wd, .ref tp, .int (nI wm), .int (nI tm)])), (r1, .inr (2, [.ref a0, .ref b0, .ref v0, .int (nI n)])), (a0, .inl (cI, cap, .inl fa)), (b0, .inl (cI, cap, .inl fb)), (v0, .inl (cJ, cap, .inr (.inl fv)))] sz) (fun (a', b', v', cap', n', fa', fb', fv') => [(y, .inr (3, [.ref r0, .ref r1, .ref r2, .ref r3, .ref r4, .ref r5, .ref wd, .ref tp, .int (nI wm), .int (nI tm)])), (r1, .inr (2, [.ref a', .ref b', .ref v', .int (nI n')])), (a', .inl (cI, cap', .inl fa')), (b', .inl (cI, cap', .inl fb')), (v', .inl (cJ, cap', .inr (.inl fv')))])) (va_A [(y, .inr (3, [.ref r0, .ref r1, .ref r2, .ref r3, .ref r4, .ref r5, .ref wd, .ref tp, .int (nI wm), .int (nI tm)])), (r1, .inr (2, [.ref a0, .ref b0, .ref v0, .int (nI n)])), (a0, .inl (cI, cap, .inl fa)), (b0, .inl (cI, cap, .inl fb)), (v0, .inl (cJ, cap, .inr (.inl fv)))] sz)) 3 6600 (va_A [(y, .inr (3, [.ref r0, .ref r1, .ref r2, .ref r3, .ref r4, .ref r5, .ref wd, .ref tp, .int (nI wm), .int (nI tm)])), (r1, .inr (2, [.ref a0, .ref b0, .ref v0, .int (nI n)])), (a0, .inl (cI, cap, .inl fa)), (b0, .inl (cI, cap, .inl fb)), (v0, .inl (cJ, cap, .inr (.inl fv)))] sz) := by
  refine Met.ofW (cc := cX3_come) (maxL := 4) (ret := (some .boolean)) (by decide) rfl ?_
  intro p e s m args below meth c s₁ B hml hv
  obtain ⟨rfl, hsz, hP, hK, hD0⟩ := hv
  have hx := B.exec
  have hb := B.bytes
  have hr := B.returns
  have hts := atoms_spec (ws := wsX3_come) B.pre
  have hown : s.vm.findClass RX3 = some m.cls := findClass_of_methodNamed B.named
  have hlocks := B.notSynchronized
  have lk0 := hts (.fieldLink RX3 16 "KeyHallModel" "coming" "LKeyHallModel$Rows;") (by decide +kernel)
  have lk1 : ∀ w ∈ wsX30, w ∈ wsX3_come := by decide +kernel
  subst hsz
  have hD := hD0.self (sz := s.heap.size)
  generalize hAe : va_A [(y, .inr (3, [.ref r0, .ref r1, .ref r2, .ref r3, .ref r4, .ref r5, .ref wd, .ref tp, .int (nI wm), .int (nI tm)])), (r1, .inr (2, [.ref a0, .ref b0, .ref v0, .int (nI n)])), (a0, .inl (cI, cap, .inl fa)), (b0, .inl (cI, cap, .inl fb)), (v0, .inl (cJ, cap, .inr (.inl fv)))] s.heap.size = A at hD ⊢
  have hA : ∀ q : Nat, s.heap.size ≤ q → A q := fun q h => by rw [← hAe]; exact Or.inr h
  have hS : va_S A s.heap s.heap [] := va_S.rf
  have hP : va_P D vwCl [(y, .inr (3, [.ref r0, .ref r1, .ref r2, .ref r3, .ref r4, .ref r5, .ref wd, .ref tp, .int (nI wm), .int (nI tm)])), (r1, .inr (2, [.ref a0, .ref b0, .ref v0, .int (nI n)])), (a0, .inl (cI, cap, .inl fa)), (b0, .inl (cI, cap, .inl fb)), (v0, .inl (cJ, cap, .inr (.inl fv)))] s.heap := hP
  have hl := lv_entry ([.ref y, .int a, .int b]) (n := 4) (Nat.le_of_ble_eq_true rfl)
  rw [lg_entry_eq]
  generalize (lg_sl ([.ref y, .int a, .int b]) ++ List.replicate (4 - (lg_sl ([.ref y, .int a, .int b])).length) Slot.unset).toArray = ls at hl ⊢
  have hl : lv_has ls 4 [(0, .ref y), (1, .int a), (2, .int b)] := hl
  refine lv_aload_n hx hb dX3_come_0 rfl (lv_at hl 0 rfl) ?_
  refine va_get (D := D) (ci := 3) (v := .ref r1) (C := RX3) (T := TX3) (N := 10) hx hb hts lk1 hown hK hP 0 rfl rfl 1 (by decide) lk0 (fun _ h9 => h9) rfl dX3_come_1 ?_
  refine lv_iload_n hx hb dX3_come_4 rfl (lv_at hl 1 rfl) ?_
  refine lv_iload_n hx hb dX3_come_5 rfl (lv_at hl 2 rfl) ?_
  refine vp_callSi (va_Run.run (va_runV (As := [.int a, .int b]) (rest := []) ⟨hx, hb, hml, hown, hts⟩ (c_X2_find l D cI cJ r1 a0 b0 v0 cap n fa fb fv a b (by omega) (by omega)) (cwV 2 hts gX3_come_X2_find rfl rfl rfl (by decide +kernel) ⟨Nat.le_of_ble_eq_true rfl, Nat.le_of_ble_eq_true rfl⟩) (z_preV hK hP [1, 2, 3, 4] rfl 2 1 rfl rfl) rfl rfl hl.1 rfl (lv_room (Nat.le_of_ble_eq_true rfl)) dX3_come_6 ⟨by show _ ≤ 3; omega, by show _ ≤ 6600; omega⟩)) (fun r_1 hr_1 => ?_)
  rcases hr_1 with ⟨j_2, e_f, he, hea, heb, rfl⟩ | ⟨hnf, rfl⟩
  · obtain ⟨hj, hja, hjb, hjv⟩ := rl_lt he
    refine z_if_ge (tgt := 16) hx hb dX3_come_9 (by decide) (by omega) ?_
    refine lv_iconst (v := nI 0) hx hb dX3_come_16 (by decide) ?_
    refine lv_istore_n (lv' := [(3, .int (nI 0)), (0, .ref y), (1, .int a), (2, .int b)]) hx hb dX3_come_17 rfl hl (by decide) rfl (fun ls hl => ?_)
    refine lv_iload_n hx hb dX3_come_18 rfl (lv_at hl 0 rfl) ?_
    refine lv_if_eq (tgt := 32) hx hb dX3_come_19 (by decide) (fun _ => ?_) (fun q => absurd (by decide) q)
    refine lv_iload_n hx hb dX3_come_32 rfl (lv_at hl 0 rfl) ?_
    refine W.widen (k := 3) (n := 6600) (by omega) (by omega) ?_
    exact W.zret (v := nI 0) hx hb hr (by decide) (fun t ht hW => ⟨⟨nI 0, (a0, b0, v0, cap, n, fa, fb, fv), rfl, ⟨⟨hn, h16, hc⟩, Or.inl ⟨⟨e_f, List.mem_of_getElem? he, hea, heb⟩, rfl, rfl⟩⟩, by rw [ht]; exact (hP.sub [0, 1, 2, 3, 4] rfl), va_K.moved hW.alike hK, (hD.sub [0, 1, 2, 3, 4] (by decide) rfl)⟩, hS.F ht⟩) hS.2.2 dX3_come_33
  · refine lv_if_ge (tgt := 16) hx hb dX3_come_9 (by decide) (fun q => absurd q (by decide)) (fun _ => ?_)
    refine lv_iconst (v := nI 1) hx hb dX3_come_12 (by decide) ?_
    refine lv_goto (tgt := 17) hx hb dX3_come_13 (by decide) ?_
    refine lv_istore_n (lv' := [(3, .int (nI 1)), (0, .ref y), (1, .int a), (2, .int b)]) hx hb dX3_come_17 rfl hl (by decide) rfl (fun ls hl => ?_)
    refine lv_iload_n hx hb dX3_come_18 rfl (lv_at hl 0 rfl) ?_
    refine lv_if_eq (tgt := 32) hx hb dX3_come_19 (by decide) (fun q => absurd q (by decide)) (fun _ => ?_)
    refine lv_aload_n hx hb dX3_come_22 rfl (lv_at hl 1 rfl) ?_
    refine va_get (D := D) (ci := 3) (v := .ref r1) (C := RX3) (T := TX3) (N := 10) hx hb hts lk1 hown hK hP 0 rfl rfl 1 (by decide) lk0 (fun _ h9 => h9) rfl dX3_come_23 ?_
    refine lv_iload_n hx hb dX3_come_26 rfl (lv_at hl 2 rfl) ?_
    refine lv_iload_n hx hb dX3_come_27 rfl (lv_at hl 3 rfl) ?_
    refine lv_lconst (v := 0) hx hb dX3_come_28 (by decide) ?_
    have hFc := va_free (wc := [(r1, .inr (2, [.ref a0, .ref b0, .ref v0, .int (nI n)])), (a0, .inl (cI, cap, .inl fa)), (b0, .inl (cI, cap, .inl fb)), (v0, .inl (cJ, cap, .inr (.inl fv)))]) hD hS hA [1, 2, 3, 4] rfl
    refine va_callv (va_runV (As := [.int a, .int b, .long 0]) (rest := []) ⟨hx, hb, hml, hown, hts⟩ (c_X2_add l D cI cJ r1 a0 b0 v0 cap n fa fb fv a b 0  (by omega) (by omega) (by omega) 3 6600 (fun _ => ⟨by omega, by omega⟩) s.heap.size) (cwV 3 hts gX3_come_X2_add rfl rfl rfl (by decide +kernel) ⟨Nat.le_of_ble_eq_true rfl, Nat.le_of_ble_eq_true rfl⟩) (z_preVw hK hP hD [1, 2, 3, 4] (by decide) rfl rfl 2 1 rfl rfl) rfl rfl hl.1 rfl (lv_room (Nat.le_of_ble_eq_true rfl)) dX3_come_29 ⟨by show _ ≤ 3; omega, by show _ ≤ 6600; omega⟩) hS (fun q _ h => hFc q h) hFc (fun u_4 t H1 locs ht hvm hr_3 hB hzz1 hkk1 hS => ?_)
    obtain ⟨a5, b5, v5, cap5, fa5, fb5, fv5⟩ := u_4
    obtain ⟨hP1, hK1, hD1⟩ := hB
    rw [ht] at hP1
    try dsimp only at hr_3
    obtain ⟨hP, hD⟩ := va_join (wr := [(y, .inr (3, [.ref r0, .ref r1, .ref r2, .ref r3, .ref r4, .ref r5, .ref wd, .ref tp, .int (nI wm), .int (nI tm)]))]) (w1 := [(r1, .inr (2, [.ref a5, .ref b5, .ref v5, .int (nI (n + 1))])), (a5, .inl (cI, cap5, .inl fa5)), (b5, .inl (cI, cap5, .inl fb5)), (v5, .inl (cJ, cap5, .inr (.inl fv5)))]) hP hD [1, 2, 3, 4] [0] rfl rfl (by decide) (by decide) hkk1 hFc hP1 hD1
    generalize H1 = H at hP hS ⊢
    have hP : va_P D vwCl [(y, .inr (3, [.ref r0, .ref r1, .ref r2, .ref r3, .ref r4, .ref r5, .ref wd, .ref tp, .int (nI wm), .int (nI tm)])), (r1, .inr (2, [.ref a5, .ref b5, .ref v5, .int (nI (n + 1))])), (a5, .inl (cI, cap5, .inl fa5)), (b5, .inl (cI, cap5, .inl fb5)), (v5, .inl (cJ, cap5, .inr (.inl fv5)))] H := hP.sub [0, 1, 2, 3, 4] rfl
    have hD : va_D A [(y, .inr (3, [.ref r0, .ref r1, .ref r2, .ref r3, .ref r4, .ref r5, .ref wd, .ref tp, .int (nI wm), .int (nI tm)])), (r1, .inr (2, [.ref a5, .ref b5, .ref v5, .int (nI (n + 1))])), (a5, .inl (cI, cap5, .inl fa5)), (b5, .inl (cI, cap5, .inl fb5)), (v5, .inl (cJ, cap5, .inr (.inl fv5)))] := hD.sub [0, 1, 2, 3, 4] (by decide) rfl
    obtain ⟨had, hca, hcb, hcc, hcd⟩ := hr_3
    refine lv_iload_n hx hb dX3_come_32 rfl (lv_at hl 0 rfl) ?_
    refine W.widen (k := 3) (n := 6600) (by omega) (by omega) ?_
    exact W.zret (v := nI 1) hx hb hr (by decide) (fun t ht hW => ⟨⟨nI 1, (a5, b5, v5, cap5, n + 1, fa5, fb5, fv5), rfl, ⟨⟨hca, hcb, by omega⟩, Or.inr ⟨hnf, had, rfl⟩⟩, by rw [ht]; exact (hP.sub [0, 1, 2, 3, 4] rfl), va_K.moved hW.alike hK, (hD.sub [0, 1, 2, 3, 4] (by decide) rfl)⟩, hS.F ht⟩) hS.2.2 dX3_come_33

set_option maxHeartbeats 4000000 in
set_option maxRecDepth 100000 in
theorem c_X3_leave (l : Launch) (D : va_G) (cI cJ : ClassId) (y r0 r1 r2 r3 r4 r5 wd tp wm tm : Nat) (a0 b0 v0 cap n : Nat) (fa fb : Nat → Int32) (fv : Nat → Int64) (hn : n ≤ cap) (hc : cap ≤ 1100) (h16 : 16 ≤ cap) (a b : Int32) (sz : Nat) : Met l yX3_leave wsX3_leave { frames := 1, cells := 0, slots := 0, locals := 23 } (va_Pc [.ref y, .int a, .int b] (wP D cI cJ [(y, .inr (3, [.ref r0, .ref r1, .ref r2, .ref r3, .ref r4, .ref r5, .ref wd, .ref tp, .int (nI wm), .int (nI tm)])), (r1, .inr (2, [.ref a0, .ref b0, .ref v0, .int (nI n)])), (a0, .inl (cI, cap, .inl fa)), (b0, .inl (cI, cap, .inl fb)), (v0, .inl (cJ, cap, .inr (.inl fv)))] sz)) (va_Qi (fun r (u : Nat × Nat × Nat × Nat × Nat × (Nat → Int32) × (Nat → Int32) × (Nat → Int64)) => match u with | (a', b', v', cap', n', fa', fb', fv') => ROK n' cap' ∧ ((∃ (j : Nat) (e : RT), (rl n fa fb fv)[j]? = some e ∧ e.1 = a ∧ e.2.1 = b ∧ (rl n' fa' fb' fv') = (rl n fa fb fv).eraseIdx j ∧ r = nI 1) ∨ ((∀ e, e ∈ (rl n fa fb fv) → ¬ (e.1 = a ∧ e.2.1 = b)) ∧ (rl n' fa' fb' fv') = (rl n fa fb fv) ∧ r = nI 0))) (wB D cI cJ (va_A [(y, .inr (3, [.ref r0, .ref r1, .ref r2, .ref r3, .ref r4, .ref r5, .ref wd, .ref tp, .int (nI wm), .int (nI tm)])), (r1, .inr (2, [.ref a0, .ref b0, .ref v0, .int (nI n)])), (a0, .inl (cI, cap, .inl fa)), (b0, .inl (cI, cap, .inl fb)), (v0, .inl (cJ, cap, .inr (.inl fv)))] sz) (fun (a', b', v', cap', n', fa', fb', fv') => [(y, .inr (3, [.ref r0, .ref r1, .ref r2, .ref r3, .ref r4, .ref r5, .ref wd, .ref tp, .int (nI wm), .int (nI tm)])), (r1, .inr (2, [.ref a', .ref b', .ref v', .int (nI n')])), (a', .inl (cI, cap', .inl fa')), (b', .inl (cI, cap', .inl fb')), (v', .inl (cJ, cap', .inr (.inl fv')))])) (va_A [(y, .inr (3, [.ref r0, .ref r1, .ref r2, .ref r3, .ref r4, .ref r5, .ref wd, .ref tp, .int (nI wm), .int (nI tm)])), (r1, .inr (2, [.ref a0, .ref b0, .ref v0, .int (nI n)])), (a0, .inl (cI, cap, .inl fa)), (b0, .inl (cI, cap, .inl fb)), (v0, .inl (cJ, cap, .inr (.inl fv)))] sz)) 0 0 (va_A [(y, .inr (3, [.ref r0, .ref r1, .ref r2, .ref r3, .ref r4, .ref r5, .ref wd, .ref tp, .int (nI wm), .int (nI tm)])), (r1, .inr (2, [.ref a0, .ref b0, .ref v0, .int (nI n)])), (a0, .inl (cI, cap, .inl fa)), (b0, .inl (cI, cap, .inl fb)), (v0, .inl (cJ, cap, .inr (.inl fv)))] sz) := by
  refine Met.ofW (cc := cX3_leave) (maxL := 4) (ret := (some .boolean)) (by decide) rfl ?_
  intro p e s m args below meth c s₁ B hml hv
  obtain ⟨rfl, hsz, hP, hK, hD0⟩ := hv
  have hx := B.exec
  have hb := B.bytes
  have hr := B.returns
  have hts := atoms_spec (ws := wsX3_leave) B.pre
  have hown : s.vm.findClass RX3 = some m.cls := findClass_of_methodNamed B.named
  have hlocks := B.notSynchronized
  have lk0 := hts (.fieldLink RX3 16 "KeyHallModel" "coming" "LKeyHallModel$Rows;") (by decide +kernel)
  have lk1 : ∀ w ∈ wsX30, w ∈ wsX3_leave := by decide +kernel
  subst hsz
  have hD := hD0.self (sz := s.heap.size)
  generalize hAe : va_A [(y, .inr (3, [.ref r0, .ref r1, .ref r2, .ref r3, .ref r4, .ref r5, .ref wd, .ref tp, .int (nI wm), .int (nI tm)])), (r1, .inr (2, [.ref a0, .ref b0, .ref v0, .int (nI n)])), (a0, .inl (cI, cap, .inl fa)), (b0, .inl (cI, cap, .inl fb)), (v0, .inl (cJ, cap, .inr (.inl fv)))] s.heap.size = A at hD ⊢
  have hA : ∀ q : Nat, s.heap.size ≤ q → A q := fun q h => by rw [← hAe]; exact Or.inr h
  have hS : va_S A s.heap s.heap [] := va_S.rf
  have hP : va_P D vwCl [(y, .inr (3, [.ref r0, .ref r1, .ref r2, .ref r3, .ref r4, .ref r5, .ref wd, .ref tp, .int (nI wm), .int (nI tm)])), (r1, .inr (2, [.ref a0, .ref b0, .ref v0, .int (nI n)])), (a0, .inl (cI, cap, .inl fa)), (b0, .inl (cI, cap, .inl fb)), (v0, .inl (cJ, cap, .inr (.inl fv)))] s.heap := hP
  have hl := lv_entry ([.ref y, .int a, .int b]) (n := 4) (Nat.le_of_ble_eq_true rfl)
  rw [lg_entry_eq]
  generalize (lg_sl ([.ref y, .int a, .int b]) ++ List.replicate (4 - (lg_sl ([.ref y, .int a, .int b])).length) Slot.unset).toArray = ls at hl ⊢
  have hl : lv_has ls 4 [(0, .ref y), (1, .int a), (2, .int b)] := hl
  refine lv_aload_n hx hb dX3_leave_0 rfl (lv_at hl 0 rfl) ?_
  refine va_get (D := D) (ci := 3) (v := .ref r1) (C := RX3) (T := TX3) (N := 10) hx hb hts lk1 hown hK hP 0 rfl rfl 1 (by decide) lk0 (fun _ h9 => h9) rfl dX3_leave_1 ?_
  refine lv_iload_n hx hb dX3_leave_4 rfl (lv_at hl 1 rfl) ?_
  refine lv_iload_n hx hb dX3_leave_5 rfl (lv_at hl 2 rfl) ?_
  refine vp_callSi (va_Run.run (va_runV (As := [.int a, .int b]) (rest := []) ⟨hx, hb, hml, hown, hts⟩ (c_X2_find l D cI cJ r1 a0 b0 v0 cap n fa fb fv a b (by omega) (by omega)) (cwV 2 hts gX3_leave_X2_find rfl rfl rfl (by decide +kernel) ⟨Nat.le_of_ble_eq_true rfl, Nat.le_of_ble_eq_true rfl⟩) (z_preV hK hP [1, 2, 3, 4] rfl 2 1 rfl rfl) rfl rfl hl.1 rfl (lv_room (Nat.le_of_ble_eq_true rfl)) dX3_leave_6 ⟨Nat.zero_le _, Nat.zero_le _⟩)) (fun r_1 hr_1 => ?_)
  rcases hr_1 with ⟨j_2, e_f, he, hea, heb, rfl⟩ | ⟨hnf, rfl⟩
  · obtain ⟨hj, hja, hjb, hjv⟩ := rl_lt he
    refine lv_istore_n (lv' := [(3, .int (nI j_2)), (0, .ref y), (1, .int a), (2, .int b)]) hx hb dX3_leave_9 rfl hl (by decide) rfl (fun ls hl => ?_)
    refine lv_iload_n hx hb dX3_leave_10 rfl (lv_at hl 0 rfl) ?_
    refine z_if_lt (tgt := 22) hx hb dX3_leave_11 (by decide) (by omega) ?_
    refine lv_aload_n hx hb dX3_leave_14 rfl (lv_at hl 1 rfl) ?_
    refine va_get (D := D) (ci := 3) (v := .ref r1) (C := RX3) (T := TX3) (N := 10) hx hb hts lk1 hown hK hP 0 rfl rfl 1 (by decide) lk0 (fun _ h9 => h9) rfl dX3_leave_15 ?_
    refine lv_iload_n hx hb dX3_leave_18 rfl (lv_at hl 0 rfl) ?_
    have hFc := va_free (wc := [(r1, .inr (2, [.ref a0, .ref b0, .ref v0, .int (nI n)])), (a0, .inl (cI, cap, .inl fa)), (b0, .inl (cI, cap, .inl fb)), (v0, .inl (cJ, cap, .inr (.inl fv)))]) hD hS hA [1, 2, 3, 4] rfl
    refine va_callv (va_runV (As := [.int (nI j_2)]) (rest := []) ⟨hx, hb, hml, hown, hts⟩ (c_X2_remove l D cI cJ r1 a0 b0 v0 cap n fa fb fv j_2 (by omega) (by omega) (by omega) s.heap.size) (cwV 1 hts gX3_leave_X2_remove rfl rfl rfl (by decide +kernel) ⟨Nat.le_of_ble_eq_true rfl, Nat.le_of_ble_eq_true rfl⟩) (z_preVw hK hP hD [1, 2, 3, 4] (by decide) rfl rfl 2 1 rfl rfl) rfl rfl hl.1 rfl (lv_room (Nat.le_of_ble_eq_true rfl)) dX3_leave_19 ⟨Nat.zero_le _, Nat.zero_le _⟩) hS (fun q _ h => hFc q h) hFc (fun u_4 t H1 locs ht hvm hr_3 hB hzz1 hkk1 hS => ?_)
    obtain ⟨hP1, hK1, hD1⟩ := hB
    rw [ht] at hP1
    try dsimp only at hr_3
    obtain ⟨hP, hD⟩ := va_join (wr := [(y, .inr (3, [.ref r0, .ref r1, .ref r2, .ref r3, .ref r4, .ref r5, .ref wd, .ref tp, .int (nI wm), .int (nI tm)]))]) (w1 := [(r1, .inr (2, [.ref a0, .ref b0, .ref v0, .int (nI (n - 1))])), (a0, .inl (cI, cap, .inl (shf fa j_2 (n - 1)))), (b0, .inl (cI, cap, .inl (shf fb j_2 (n - 1)))), (v0, .inl (cJ, cap, .inr (.inl (shf fv j_2 (n - 1)))))]) hP hD [1, 2, 3, 4] [0] rfl rfl (by decide) (by decide) hkk1 hFc hP1 hD1
    generalize H1 = H at hP hS ⊢
    have hP : va_P D vwCl [(y, .inr (3, [.ref r0, .ref r1, .ref r2, .ref r3, .ref r4, .ref r5, .ref wd, .ref tp, .int (nI wm), .int (nI tm)])), (r1, .inr (2, [.ref a0, .ref b0, .ref v0, .int (nI (n - 1))])), (a0, .inl (cI, cap, .inl (shf fa j_2 (n - 1)))), (b0, .inl (cI, cap, .inl (shf fb j_2 (n - 1)))), (v0, .inl (cJ, cap, .inr (.inl (shf fv j_2 (n - 1)))))] H := hP.sub [0, 1, 2, 3, 4] rfl
    have hD : va_D A [(y, .inr (3, [.ref r0, .ref r1, .ref r2, .ref r3, .ref r4, .ref r5, .ref wd, .ref tp, .int (nI wm), .int (nI tm)])), (r1, .inr (2, [.ref a0, .ref b0, .ref v0, .int (nI (n - 1))])), (a0, .inl (cI, cap, .inl (shf fa j_2 (n - 1)))), (b0, .inl (cI, cap, .inl (shf fb j_2 (n - 1)))), (v0, .inl (cJ, cap, .inr (.inl (shf fv j_2 (n - 1)))))] := hD.sub [0, 1, 2, 3, 4] (by decide) rfl
    refine lv_iload_n hx hb dX3_leave_22 rfl (lv_at hl 0 rfl) ?_
    refine z_if_lt (tgt := 30) hx hb dX3_leave_23 (by decide) (by omega) ?_
    refine lv_iconst (v := nI 1) hx hb dX3_leave_26 (by decide) ?_
    refine lv_goto (tgt := 31) hx hb dX3_leave_27 (by decide) ?_
    exact W.zret (v := nI 1) hx hb hr (by decide) (fun t ht hW => ⟨⟨nI 1, (a0, b0, v0, cap, n - 1, shf fa j_2 (n - 1), shf fb j_2 (n - 1), shf fv j_2 (n - 1)), rfl, ⟨⟨by omega, h16, hc⟩, Or.inl ⟨j_2, e_f, he, hea, heb, rl_era hj, rfl⟩⟩, by rw [ht]; exact hP, va_K.moved hW.alike hK, hD⟩, hS.F ht⟩) hS.2.2 dX3_leave_31
  · refine lv_istore_n (lv' := [(3, .int (-1)), (0, .ref y), (1, .int a), (2, .int b)]) hx hb dX3_leave_9 rfl hl (by decide) rfl (fun ls hl => ?_)
    refine lv_iload_n hx hb dX3_leave_10 rfl (lv_at hl 0 rfl) ?_
    refine lv_if_lt (tgt := 22) hx hb dX3_leave_11 (by decide) (fun _ => ?_) (fun q => absurd (by decide) q)
    refine lv_iload_n hx hb dX3_leave_22 rfl (lv_at hl 0 rfl) ?_
    refine lv_if_lt (tgt := 30) hx hb dX3_leave_23 (by decide) (fun _ => ?_) (fun q => absurd (by decide) q)
    refine lv_iconst (v := nI 0) hx hb dX3_leave_30 (by decide) ?_
    exact W.zret (v := nI 0) hx hb hr (by decide) (fun t ht hW => ⟨⟨nI 0, (a0, b0, v0, cap, n, fa, fb, fv), rfl, ⟨⟨hn, h16, hc⟩, Or.inr ⟨hnf, rfl, rfl⟩⟩, by rw [ht]; exact hP, va_K.moved hW.alike hK, hD⟩, hS.F ht⟩) hS.2.2 dX3_leave_31

set_option maxHeartbeats 4000000 in
set_option maxRecDepth 100000 in
theorem c_X3_comer (l : Launch) (D : va_G) (cI cJ : ClassId) (y r0 r1 r2 r3 r4 r5 wd tp wm tm : Nat) (a0 b0 v0 cap n : Nat) (fa fb : Nat → Int32) (fv : Nat → Int64) (hn : n ≤ cap) (hc : cap ≤ 1100) (h16 : 16 ≤ cap) (k : Int32) (sc : Nat) (hsc : sc ≤ 1) : Met l yX3_comer wsX3_comer { frames := 0, cells := 0, slots := 0, locals := 0 } (va_Pc [.ref y, .int k, .int (nI sc)] (rP D cI cJ [(y, .inr (3, [.ref r0, .ref r1, .ref r2, .ref r3, .ref r4, .ref r5, .ref wd, .ref tp, .int (nI wm), .int (nI tm)])), (r1, .inr (2, [.ref a0, .ref b0, .ref v0, .int (nI n)])), (a0, .inl (cI, cap, .inl fa)), (b0, .inl (cI, cap, .inl fb)), (v0, .inl (cJ, cap, .inr (.inl fv)))])) (vp_Sl (fun r => (∃ j, j < n ∧ k = nI j ∧ ((sc = 0 ∧ r = (fa j).toInt64) ∨ (sc ≠ 0 ∧ r = (fb j).toInt64))) ∨ (¬ (¬ k < 0 ∧ ¬ nI n ≤ k) ∧ r = NO))) 0 0 (fun _ => False) := by
  refine Met.ofW (cc := cX3_comer) (maxL := 3) (ret := (some .long)) (by decide) rfl ?_
  intro p e s m args below meth c s₁ B hml hv
  obtain ⟨rfl, hP, hK⟩ := hv
  have hx := B.exec
  have hb := B.bytes
  have hr := B.returns
  have hts := atoms_spec (ws := wsX3_comer) B.pre
  have hown : s.vm.findClass RX3 = some m.cls := findClass_of_methodNamed B.named
  have hlocks := B.notSynchronized
  have lk0 := hts (.constantLong RX3 54 (4611686018427387904)) (by decide +kernel)
  have lk1 := hts (.fieldLink RX3 16 "KeyHallModel" "coming" "LKeyHallModel$Rows;") (by decide +kernel)
  have lk2 : ∀ w ∈ wsX30, w ∈ wsX3_comer := by decide +kernel
  have lk3 := hts (.fieldLink RX3 46 "KeyHallModel$Rows" "many" "I") (by decide +kernel)
  have lk4 : ∀ w ∈ wsX20, w ∈ wsX3_comer := by decide +kernel
  have lk5 := hts (.fieldLink RX3 66 "KeyHallModel$Rows" "a" "[I") (by decide +kernel)
  have lk6 := hts (.fieldLink RX3 69 "KeyHallModel$Rows" "b" "[I") (by decide +kernel)
  have hl := lv_entry ([.ref y, .int k, .int (nI sc)]) (n := 3) (Nat.le_of_ble_eq_true rfl)
  rw [lg_entry_eq]
  generalize (lg_sl ([.ref y, .int k, .int (nI sc)]) ++ List.replicate (3 - (lg_sl ([.ref y, .int k, .int (nI sc)])).length) Slot.unset).toArray = ls at hl ⊢
  have hl : lv_has ls 3 [(0, .ref y), (1, .int k), (2, .int (nI sc))] := hl
  refine lv_iload_n hx hb dX3_comer_0 rfl (lv_at hl 1 rfl) ?_
  refine lv_if_lt (tgt := 15) hx hb dX3_comer_1 (by decide) (fun c_1 => ?_) (fun c_1 => ?_)
  · refine lv_ldc2 hx hb hown lk0 dX3_comer_15 ?_
    refine lv_goto (tgt := 48) hx hb dX3_comer_18 (by decide) ?_
    exact W.lret (v := 4611686018427387904) hx hb hr (fun t ht hW => ⟨4611686018427387904, rfl, Or.inr ⟨fun q => q.1 c_1, rfl⟩, ht⟩) (fun _ h => nomatch h) dX3_comer_48
  · refine lv_iload_n hx hb dX3_comer_4 rfl (lv_at hl 1 rfl) ?_
    refine lv_aload_n hx hb dX3_comer_5 rfl (lv_at hl 0 rfl) ?_
    refine va_get (D := D) (ci := 3) (v := .ref r1) (C := RX3) (T := TX3) (N := 10) hx hb hts lk2 hown hK hP 0 rfl rfl 1 (by decide) lk1 (fun _ h9 => h9) rfl dX3_comer_6 ?_
    refine va_get (D := D) (ci := 2) (v := .int (nI n)) (C := RX2) (T := TX2) (N := 4) hx hb hts lk4 hown hK hP 1 rfl rfl 3 (by decide) lk3 (fun _ h9 => h9) rfl dX3_comer_9 ?_
    refine lv_icmp_lt (tgt := 21) hx hb dX3_comer_12 (by decide) (fun c_12 => ?_) (fun c_12 => ?_)
    · obtain ⟨j, hj, rfl⟩ := ix_of c_1 (Int32.not_le.mpr c_12) (by omega)
      refine lv_iload_n hx hb dX3_comer_21 rfl (lv_at hl 2 rfl) ?_
      refine z_if_eq (tgt := 38) hx hb dX3_comer_22 (by decide) (by omega) (fun c_22 => ?_) (fun c_22 => ?_)
      · refine lv_aload_n hx hb dX3_comer_38 rfl (lv_at hl 0 rfl) ?_
        refine va_get (D := D) (ci := 3) (v := .ref r1) (C := RX3) (T := TX3) (N := 10) hx hb hts lk2 hown hK hP 0 rfl rfl 1 (by decide) lk1 (fun _ h9 => h9) rfl dX3_comer_39 ?_
        refine va_get (D := D) (ci := 2) (v := .ref a0) (C := RX2) (T := TX2) (N := 4) hx hb hts lk4 hown hK hP 1 rfl rfl 0 (by decide) lk5 (fun _ h9 => h9) rfl dX3_comer_42 ?_
        refine lv_iload_n hx hb dX3_comer_45 rfl (lv_at hl 1 rfl) ?_
        refine z_iald hx hb hK hP 2 rfl (j := j) (by omega) (by omega) dX3_comer_46 ?_
        refine lv_i2l (v := (fa j).toInt64) hx hb dX3_comer_47 rfl ?_
        exact W.lret (v := (fa j).toInt64) hx hb hr (fun t ht hW => ⟨(fa j).toInt64, rfl, Or.inl ⟨j, hj, rfl, Or.inl ⟨c_22, rfl⟩⟩, ht⟩) (fun _ h => nomatch h) dX3_comer_48
      · refine lv_aload_n hx hb dX3_comer_25 rfl (lv_at hl 0 rfl) ?_
        refine va_get (D := D) (ci := 3) (v := .ref r1) (C := RX3) (T := TX3) (N := 10) hx hb hts lk2 hown hK hP 0 rfl rfl 1 (by decide) lk1 (fun _ h9 => h9) rfl dX3_comer_26 ?_
        refine va_get (D := D) (ci := 2) (v := .ref b0) (C := RX2) (T := TX2) (N := 4) hx hb hts lk4 hown hK hP 1 rfl rfl 1 (by decide) lk6 (fun _ h9 => h9) rfl dX3_comer_29 ?_
        refine lv_iload_n hx hb dX3_comer_32 rfl (lv_at hl 1 rfl) ?_
        refine z_iald hx hb hK hP 3 rfl (j := j) (by omega) (by omega) dX3_comer_33 ?_
        refine lv_i2l (v := (fb j).toInt64) hx hb dX3_comer_34 rfl ?_
        refine lv_goto (tgt := 48) hx hb dX3_comer_35 (by decide) ?_
        exact W.lret (v := (fb j).toInt64) hx hb hr (fun t ht hW => ⟨(fb j).toInt64, rfl, Or.inl ⟨j, hj, rfl, Or.inr ⟨by omega, rfl⟩⟩, ht⟩) (fun _ h => nomatch h) dX3_comer_48
    · refine lv_ldc2 hx hb hown lk0 dX3_comer_15 ?_
      refine lv_goto (tgt := 48) hx hb dX3_comer_18 (by decide) ?_
      exact W.lret (v := 4611686018427387904) hx hb hr (fun t ht hW => ⟨4611686018427387904, rfl, Or.inr ⟨fun q => q.2 (Int32.not_lt.mp c_12), rfl⟩, ht⟩) (fun _ h => nomatch h) dX3_comer_48

set_option maxHeartbeats 4000000 in
set_option maxRecDepth 100000 in
theorem c_X3_retain (l : Launch) (D : va_G) (cI cJ : ClassId) (y r0 r1 r2 r3 r4 r5 wd tp wm tm : Nat) (a0c b0c v0c capc nc : Nat) (fac fbc : Nat → Int32) (fvc : Nat → Int64) (hnc : nc ≤ capc) (hcc : capc ≤ 1100) (h16c : 16 ≤ capc) (a0 b0 v0 cap n : Nat) (fa fb : Nat → Int32) (fv : Nat → Int64) (hn : n ≤ cap) (hc : cap ≤ 1100) (h16 : 16 ≤ cap) (sz : Nat) : Met l yX3_retain wsX3_retain { frames := 1, cells := 0, slots := 0, locals := 23 } (va_Pc [.ref y] (wP D cI cJ [(y, .inr (3, [.ref r0, .ref r1, .ref r2, .ref r3, .ref r4, .ref r5, .ref wd, .ref tp, .int (nI wm), .int (nI tm)])), (r0, .inr (2, [.ref a0c, .ref b0c, .ref v0c, .int (nI nc)])), (a0c, .inl (cI, capc, .inl fac)), (b0c, .inl (cI, capc, .inl fbc)), (v0c, .inl (cJ, capc, .inr (.inl fvc))), (r1, .inr (2, [.ref a0, .ref b0, .ref v0, .int (nI n)])), (a0, .inl (cI, cap, .inl fa)), (b0, .inl (cI, cap, .inl fb)), (v0, .inl (cJ, cap, .inr (.inl fv)))] sz)) (va_Qi (fun r (u : Nat × Nat × Nat × Nat × Nat × (Nat → Int32) × (Nat → Int32) × (Nat → Int64)) => match u with | (a', b', v', cap', n', fa', fb', fv') => ROK n' cap' ∧ ((rl n' fa' fb' fv') = (rl n fa fb fv).filter (fun e => pB (∃ e', e' ∈ (rl nc fac fbc fvc) ∧ e'.1 = e.1 ∧ e'.2.1 = e.2.1)) ∧ r = nI n')) (wB D cI cJ (va_A [(y, .inr (3, [.ref r0, .ref r1, .ref r2, .ref r3, .ref r4, .ref r5, .ref wd, .ref tp, .int (nI wm), .int (nI tm)])), (r0, .inr (2, [.ref a0c, .ref b0c, .ref v0c, .int (nI nc)])), (a0c, .inl (cI, capc, .inl fac)), (b0c, .inl (cI, capc, .inl fbc)), (v0c, .inl (cJ, capc, .inr (.inl fvc))), (r1, .inr (2, [.ref a0, .ref b0, .ref v0, .int (nI n)])), (a0, .inl (cI, cap, .inl fa)), (b0, .inl (cI, cap, .inl fb)), (v0, .inl (cJ, cap, .inr (.inl fv)))] sz) (fun (a', b', v', cap', n', fa', fb', fv') => [(y, .inr (3, [.ref r0, .ref r1, .ref r2, .ref r3, .ref r4, .ref r5, .ref wd, .ref tp, .int (nI wm), .int (nI tm)])), (r0, .inr (2, [.ref a0c, .ref b0c, .ref v0c, .int (nI nc)])), (a0c, .inl (cI, capc, .inl fac)), (b0c, .inl (cI, capc, .inl fbc)), (v0c, .inl (cJ, capc, .inr (.inl fvc))), (r1, .inr (2, [.ref a', .ref b', .ref v', .int (nI n')])), (a', .inl (cI, cap', .inl fa')), (b', .inl (cI, cap', .inl fb')), (v', .inl (cJ, cap', .inr (.inl fv')))])) (va_A [(y, .inr (3, [.ref r0, .ref r1, .ref r2, .ref r3, .ref r4, .ref r5, .ref wd, .ref tp, .int (nI wm), .int (nI tm)])), (r0, .inr (2, [.ref a0c, .ref b0c, .ref v0c, .int (nI nc)])), (a0c, .inl (cI, capc, .inl fac)), (b0c, .inl (cI, capc, .inl fbc)), (v0c, .inl (cJ, capc, .inr (.inl fvc))), (r1, .inr (2, [.ref a0, .ref b0, .ref v0, .int (nI n)])), (a0, .inl (cI, cap, .inl fa)), (b0, .inl (cI, cap, .inl fb)), (v0, .inl (cJ, cap, .inr (.inl fv)))] sz)) 0 0 (va_A [(y, .inr (3, [.ref r0, .ref r1, .ref r2, .ref r3, .ref r4, .ref r5, .ref wd, .ref tp, .int (nI wm), .int (nI tm)])), (r0, .inr (2, [.ref a0c, .ref b0c, .ref v0c, .int (nI nc)])), (a0c, .inl (cI, capc, .inl fac)), (b0c, .inl (cI, capc, .inl fbc)), (v0c, .inl (cJ, capc, .inr (.inl fvc))), (r1, .inr (2, [.ref a0, .ref b0, .ref v0, .int (nI n)])), (a0, .inl (cI, cap, .inl fa)), (b0, .inl (cI, cap, .inl fb)), (v0, .inl (cJ, cap, .inr (.inl fv)))] sz) := by
  refine Met.ofW (cc := cX3_retain) (maxL := 2) (ret := (some .int)) (by decide) rfl ?_
  intro p e s m args below meth c s₁ B hml hv
  obtain ⟨rfl, hsz, hP, hK, hD0⟩ := hv
  have hx := B.exec
  have hb := B.bytes
  have hr := B.returns
  have hts := atoms_spec (ws := wsX3_retain) B.pre
  have hown : s.vm.findClass RX3 = some m.cls := findClass_of_methodNamed B.named
  have hlocks := B.notSynchronized
  have lk0 := hts (.fieldLink RX3 16 "KeyHallModel" "coming" "LKeyHallModel$Rows;") (by decide +kernel)
  have lk1 : ∀ w ∈ wsX30, w ∈ wsX3_retain := by decide +kernel
  have lk2 := hts (.fieldLink RX3 46 "KeyHallModel$Rows" "many" "I") (by decide +kernel)
  have lk3 : ∀ w ∈ wsX20, w ∈ wsX3_retain := by decide +kernel
  have lk4 := hts (.fieldLink RX3 10 "KeyHallModel" "counts" "LKeyHallModel$Rows;") (by decide +kernel)
  have lk5 := hts (.fieldLink RX3 66 "KeyHallModel$Rows" "a" "[I") (by decide +kernel)
  have lk6 := hts (.fieldLink RX3 69 "KeyHallModel$Rows" "b" "[I") (by decide +kernel)
  subst hsz
  have hD := hD0.self (sz := s.heap.size)
  generalize hAe : va_A [(y, .inr (3, [.ref r0, .ref r1, .ref r2, .ref r3, .ref r4, .ref r5, .ref wd, .ref tp, .int (nI wm), .int (nI tm)])), (r0, .inr (2, [.ref a0c, .ref b0c, .ref v0c, .int (nI nc)])), (a0c, .inl (cI, capc, .inl fac)), (b0c, .inl (cI, capc, .inl fbc)), (v0c, .inl (cJ, capc, .inr (.inl fvc))), (r1, .inr (2, [.ref a0, .ref b0, .ref v0, .int (nI n)])), (a0, .inl (cI, cap, .inl fa)), (b0, .inl (cI, cap, .inl fb)), (v0, .inl (cJ, cap, .inr (.inl fv)))] s.heap.size = A at hD ⊢
  have hA : ∀ q : Nat, s.heap.size ≤ q → A q := fun q h => by rw [← hAe]; exact Or.inr h
  have hS : va_S A s.heap s.heap [] := va_S.rf
  have hP : va_P D vwCl [(y, .inr (3, [.ref r0, .ref r1, .ref r2, .ref r3, .ref r4, .ref r5, .ref wd, .ref tp, .int (nI wm), .int (nI tm)])), (r0, .inr (2, [.ref a0c, .ref b0c, .ref v0c, .int (nI nc)])), (a0c, .inl (cI, capc, .inl fac)), (b0c, .inl (cI, capc, .inl fbc)), (v0c, .inl (cJ, capc, .inr (.inl fvc))), (r1, .inr (2, [.ref a0, .ref b0, .ref v0, .int (nI n)])), (a0, .inl (cI, cap, .inl fa)), (b0, .inl (cI, cap, .inl fb)), (v0, .inl (cJ, cap, .inr (.inl fv)))] s.heap := hP
  have hl := lv_entry ([.ref y]) (n := 2) (Nat.le_of_ble_eq_true rfl)
  rw [lg_entry_eq]
  generalize (lg_sl ([.ref y]) ++ List.replicate (2 - (lg_sl ([.ref y])).length) Slot.unset).toArray = ls at hl ⊢
  have hl : lv_has ls 2 [(0, .ref y)] := hl
  refine lv_aload_n hx hb dX3_retain_0 rfl (lv_at hl 0 rfl) ?_
  refine va_get (D := D) (ci := 3) (v := .ref r1) (C := RX3) (T := TX3) (N := 10) hx hb hts lk1 hown hK hP 0 rfl rfl 1 (by decide) lk0 (fun _ h9 => h9) rfl dX3_retain_1 ?_
  refine va_get (D := D) (ci := 2) (v := .int (nI n)) (C := RX2) (T := TX2) (N := 4) hx hb hts lk3 hown hK hP 5 rfl rfl 3 (by decide) lk2 (fun _ h9 => h9) rfl dX3_retain_4 ?_
  refine lv_iconst (v := nI 1) hx hb dX3_retain_7 (by decide) ?_
  refine lv_isub hx hb dX3_retain_8 ?_
  refine z_topi (y := off n) (off_sub) ?_
  refine lv_istore_n (lv' := [(1, .int (off n)), (0, .ref y)]) hx hb dX3_retain_9 rfl hl (by decide) rfl (fun ls hl => ?_)
  refine z_loopw (σ := Nat × Nat × (Nat → Int32) × (Nat → Int32) × (Nat → Int64)) (fun (k, m, fa1, fb1, fv1) => k) (fun (k, m, fa1, fb1, fv1) H locs ls => va_P D vwCl [(y, .inr (3, [.ref r0, .ref r1, .ref r2, .ref r3, .ref r4, .ref r5, .ref wd, .ref tp, .int (nI wm), .int (nI tm)])), (r0, .inr (2, [.ref a0c, .ref b0c, .ref v0c, .int (nI nc)])), (a0c, .inl (cI, capc, .inl fac)), (b0c, .inl (cI, capc, .inl fbc)), (v0c, .inl (cJ, capc, .inr (.inl fvc))), (r1, .inr (2, [.ref a0, .ref b0, .ref v0, .int (nI m)])), (a0, .inl (cI, cap, .inl fa1)), (b0, .inl (cI, cap, .inl fb1)), (v0, .inl (cJ, cap, .inr (.inl fv1)))] H ∧ va_D A [(y, .inr (3, [.ref r0, .ref r1, .ref r2, .ref r3, .ref r4, .ref r5, .ref wd, .ref tp, .int (nI wm), .int (nI tm)])), (r0, .inr (2, [.ref a0c, .ref b0c, .ref v0c, .int (nI nc)])), (a0c, .inl (cI, capc, .inl fac)), (b0c, .inl (cI, capc, .inl fbc)), (v0c, .inl (cJ, capc, .inr (.inl fvc))), (r1, .inr (2, [.ref a0, .ref b0, .ref v0, .int (nI m)])), (a0, .inl (cI, cap, .inl fa1)), (b0, .inl (cI, cap, .inl fb1)), (v0, .inl (cJ, cap, .inr (.inl fv1)))] ∧ va_S A s.heap H locs ∧ lv_has ls 2 [(0, .ref y), (1, .int (off k))] ∧ (k ≤ n) ∧ (m ≤ n) ∧ (FD (fun e => pB (∃ e', e' ∈ (rl nc fac fbc fvc) ∧ e'.1 = e.1 ∧ e'.2.1 = e.2.1)) (rl n fa fb fv) k (rl m fa1 fb1 fv1))) ?_ ((n, n, fa, fb, fv)) _ _ _ ⟨hP, hD, hS, lv_sub hl [1, 0] rfl, Nat.le_refl _, Nat.le_refl _, by have h := FD.init (fun e => pB (∃ e', e' ∈ (rl nc fac fbc fvc) ∧ e'.1 = e.1 ∧ e'.2.1 = e.2.1)) (rl n fa fb fv); rw [rl_len] at h; exact h⟩
  rintro ⟨k, m, fa1, fb1, fv1⟩ H locs ls ⟨hP, hD, hS, hl, hkn, hmn, hF⟩ ih
  have hP : va_P D vwCl [(y, .inr (3, [.ref r0, .ref r1, .ref r2, .ref r3, .ref r4, .ref r5, .ref wd, .ref tp, .int (nI wm), .int (nI tm)])), (r0, .inr (2, [.ref a0c, .ref b0c, .ref v0c, .int (nI nc)])), (a0c, .inl (cI, capc, .inl fac)), (b0c, .inl (cI, capc, .inl fbc)), (v0c, .inl (cJ, capc, .inr (.inl fvc))), (r1, .inr (2, [.ref a0, .ref b0, .ref v0, .int (nI m)])), (a0, .inl (cI, cap, .inl fa1)), (b0, .inl (cI, cap, .inl fb1)), (v0, .inl (cJ, cap, .inr (.inl fv1)))] H := hP
  have hl : lv_has ls 2 [(0, .ref y), (1, .int (off k))] := hl
  refine lv_iload_n hx hb dX3_retain_10 rfl (lv_at hl 1 rfl) ?_
  refine lv_if_lt (tgt := 56) hx hb dX3_retain_11 (by decide) (fun c_11 => ?_) (fun c_11 => ?_)
  · refine lv_aload_n hx hb dX3_retain_56 rfl (lv_at hl 0 rfl) ?_
    refine va_get (D := D) (ci := 3) (v := .ref r1) (C := RX3) (T := TX3) (N := 10) hx hb hts lk1 hown hK hP 0 rfl rfl 1 (by decide) lk0 (fun _ h9 => h9) rfl dX3_retain_57 ?_
    refine va_get (D := D) (ci := 2) (v := .int (nI m)) (C := RX2) (T := TX2) (N := 4) hx hb hts lk3 hown hK hP 5 rfl rfl 3 (by decide) lk2 (fun _ h9 => h9) rfl dX3_retain_60 ?_
    exact W.iret (v := nI m) hx hb hr (fun t ht hW => ⟨⟨nI m, (a0, b0, v0, cap, m, fa1, fb1, fv1), rfl, ⟨⟨by omega, h16, hc⟩, FD.fin (by rw [(off_neg (by omega)).mp c_11] at hF; exact hF), rfl⟩, by rw [ht]; exact hP, va_K.moved hW.alike hK, hD⟩, hS.F ht⟩) hS.2.2 dX3_retain_63
  · obtain ⟨k1, rfl⟩ : ∃ k1, k = k1 + 1 := ⟨k - 1, by have h : ¬ k = 0 := fun q => c_11 ((off_neg (by omega)).mpr q); omega⟩
    rw [off_p k1] at hl
    have hFl := hF.len (by rw [rl_len]; omega)
    rw [rl_len, rl_len] at hFl
    have hFe : (rl m fa1 fb1 fv1)[k1]? = (rl n fa fb fv)[k1]? := hF.get (by rw [rl_len]; omega)
    rw [rl_get (show k1 < m by omega)] at hFe
    have hl : lv_has ls 2 [(0, .ref y), (1, .int (nI k1))] := hl
    refine lv_aload_n hx hb dX3_retain_14 rfl (lv_at hl 0 rfl) ?_
    refine va_get (D := D) (ci := 3) (v := .ref r0) (C := RX3) (T := TX3) (N := 10) hx hb hts lk1 hown hK hP 0 rfl rfl 0 (by decide) lk4 (fun _ h9 => h9) rfl dX3_retain_15 ?_
    refine lv_aload_n hx hb dX3_retain_18 rfl (lv_at hl 0 rfl) ?_
    refine va_get (D := D) (ci := 3) (v := .ref r1) (C := RX3) (T := TX3) (N := 10) hx hb hts lk1 hown hK hP 0 rfl rfl 1 (by decide) lk0 (fun _ h9 => h9) rfl dX3_retain_19 ?_
    refine va_get (D := D) (ci := 2) (v := .ref a0) (C := RX2) (T := TX2) (N := 4) hx hb hts lk3 hown hK hP 5 rfl rfl 0 (by decide) lk5 (fun _ h9 => h9) rfl dX3_retain_22 ?_
    refine lv_iload_n hx hb dX3_retain_25 rfl (lv_at hl 1 rfl) ?_
    refine z_iald hx hb hK hP 6 rfl (j := k1) (by omega) (by omega) dX3_retain_26 ?_
    refine lv_aload_n hx hb dX3_retain_27 rfl (lv_at hl 0 rfl) ?_
    refine va_get (D := D) (ci := 3) (v := .ref r1) (C := RX3) (T := TX3) (N := 10) hx hb hts lk1 hown hK hP 0 rfl rfl 1 (by decide) lk0 (fun _ h9 => h9) rfl dX3_retain_28 ?_
    refine va_get (D := D) (ci := 2) (v := .ref b0) (C := RX2) (T := TX2) (N := 4) hx hb hts lk3 hown hK hP 5 rfl rfl 1 (by decide) lk6 (fun _ h9 => h9) rfl dX3_retain_31 ?_
    refine lv_iload_n hx hb dX3_retain_34 rfl (lv_at hl 1 rfl) ?_
    refine z_iald hx hb hK hP 7 rfl (j := k1) (by omega) (by omega) dX3_retain_35 ?_
    refine vp_callSi (va_Run.run (va_runV (As := [.int (fa1 k1), .int (fb1 k1)]) (rest := []) ⟨hx, hb, hml, hown, hts⟩ (c_X2_find l D cI cJ r0 a0c b0c v0c capc nc fac fbc fvc (fa1 k1) (fb1 k1) (by omega) (by omega)) (cwV 2 hts gX3_retain_X2_find rfl rfl rfl (by decide +kernel) ⟨Nat.le_of_ble_eq_true rfl, Nat.le_of_ble_eq_true rfl⟩) (z_preV hK hP [1, 2, 3, 4] rfl 2 1 rfl rfl) rfl rfl hl.1 rfl (lv_room (Nat.le_of_ble_eq_true rfl)) dX3_retain_36 ⟨Nat.zero_le _, Nat.zero_le _⟩)) (fun r_1 hr_1 => ?_)
    rcases hr_1 with ⟨j_f, e_f, he, hea, heb, rfl⟩ | ⟨hnf, rfl⟩
    · obtain ⟨hj, hja, hjb, hjv⟩ := rl_lt he
      refine z_if_ge (tgt := 50) hx hb dX3_retain_39 (by decide) (by omega) ?_
      refine lv_iinc (v := off k1) (lv' := [(1, .int (off k1)), (0, .ref y)]) hx hb dX3_retain_50 hl (k := 1) rfl (off_m k1) (by decide) rfl (fun ls hl => ?_)
      refine lv_goto (tgt := 10) hx hb dX3_retain_53 (by decide) ?_
      exact ih ((k1, m, fa1, fb1, fv1)) _ _ _ ⟨hP, hD, hS, lv_sub hl [1, 0] rfl, by omega, by omega, hF.keep hFe.symm (pB_t ⟨e_f, List.mem_of_getElem? he, hea, heb⟩)⟩ (by first | omega | (dsimp only; omega))
    · refine lv_if_ge (tgt := 50) hx hb dX3_retain_39 (by decide) (fun q => absurd q (by decide)) (fun _ => ?_)
      refine lv_aload_n hx hb dX3_retain_42 rfl (lv_at hl 0 rfl) ?_
      refine va_get (D := D) (ci := 3) (v := .ref r1) (C := RX3) (T := TX3) (N := 10) hx hb hts lk1 hown hK hP 0 rfl rfl 1 (by decide) lk0 (fun _ h9 => h9) rfl dX3_retain_43 ?_
      refine lv_iload_n hx hb dX3_retain_46 rfl (lv_at hl 1 rfl) ?_
      have hFc := va_free (wc := [(r1, .inr (2, [.ref a0, .ref b0, .ref v0, .int (nI m)])), (a0, .inl (cI, cap, .inl fa1)), (b0, .inl (cI, cap, .inl fb1)), (v0, .inl (cJ, cap, .inr (.inl fv1)))]) hD hS hA [5, 6, 7, 8] rfl
      refine va_callv (va_runV (As := [.int (nI k1)]) (rest := []) ⟨hx, hb, hml, hown, hts⟩ (c_X2_remove l D cI cJ r1 a0 b0 v0 cap m fa1 fb1 fv1 k1 (by omega) (by omega) (by omega) H.size) (cwV 1 hts gX3_retain_X2_remove rfl rfl rfl (by decide +kernel) ⟨Nat.le_of_ble_eq_true rfl, Nat.le_of_ble_eq_true rfl⟩) (z_preVw hK hP hD [5, 6, 7, 8] (by decide) rfl rfl 2 5 rfl rfl) rfl rfl hl.1 rfl (lv_room (Nat.le_of_ble_eq_true rfl)) dX3_retain_47 ⟨Nat.zero_le _, Nat.zero_le _⟩) hS (fun q _ h => hFc q h) hFc (fun u_3 t H1 locs ht hvm hr_2 hB hzz1 hkk1 hS => ?_)
      obtain ⟨hP1, hK1, hD1⟩ := hB
      rw [ht] at hP1
      try dsimp only at hr_2
      obtain ⟨hP, hD⟩ := va_join (wr := [(y, .inr (3, [.ref r0, .ref r1, .ref r2, .ref r3, .ref r4, .ref r5, .ref wd, .ref tp, .int (nI wm), .int (nI tm)])), (r0, .inr (2, [.ref a0c, .ref b0c, .ref v0c, .int (nI nc)])), (a0c, .inl (cI, capc, .inl fac)), (b0c, .inl (cI, capc, .inl fbc)), (v0c, .inl (cJ, capc, .inr (.inl fvc)))]) (w1 := [(r1, .inr (2, [.ref a0, .ref b0, .ref v0, .int (nI (m - 1))])), (a0, .inl (cI, cap, .inl (shf fa1 k1 (m - 1)))), (b0, .inl (cI, cap, .inl (shf fb1 k1 (m - 1)))), (v0, .inl (cJ, cap, .inr (.inl (shf fv1 k1 (m - 1)))))]) hP hD [5, 6, 7, 8] [0, 1, 2, 3, 4] rfl rfl (by decide) (by decide) hkk1 hFc hP1 hD1
      generalize H1 = H at hP hS ⊢
      have hP : va_P D vwCl [(y, .inr (3, [.ref r0, .ref r1, .ref r2, .ref r3, .ref r4, .ref r5, .ref wd, .ref tp, .int (nI wm), .int (nI tm)])), (r0, .inr (2, [.ref a0c, .ref b0c, .ref v0c, .int (nI nc)])), (a0c, .inl (cI, capc, .inl fac)), (b0c, .inl (cI, capc, .inl fbc)), (v0c, .inl (cJ, capc, .inr (.inl fvc))), (r1, .inr (2, [.ref a0, .ref b0, .ref v0, .int (nI (m - 1))])), (a0, .inl (cI, cap, .inl (shf fa1 k1 (m - 1)))), (b0, .inl (cI, cap, .inl (shf fb1 k1 (m - 1)))), (v0, .inl (cJ, cap, .inr (.inl (shf fv1 k1 (m - 1)))))] H := hP.sub [0, 1, 2, 3, 4, 5, 6, 7, 8] rfl
      have hD : va_D A [(y, .inr (3, [.ref r0, .ref r1, .ref r2, .ref r3, .ref r4, .ref r5, .ref wd, .ref tp, .int (nI wm), .int (nI tm)])), (r0, .inr (2, [.ref a0c, .ref b0c, .ref v0c, .int (nI nc)])), (a0c, .inl (cI, capc, .inl fac)), (b0c, .inl (cI, capc, .inl fbc)), (v0c, .inl (cJ, capc, .inr (.inl fvc))), (r1, .inr (2, [.ref a0, .ref b0, .ref v0, .int (nI (m - 1))])), (a0, .inl (cI, cap, .inl (shf fa1 k1 (m - 1)))), (b0, .inl (cI, cap, .inl (shf fb1 k1 (m - 1)))), (v0, .inl (cJ, cap, .inr (.inl (shf fv1 k1 (m - 1)))))] := hD.sub [0, 1, 2, 3, 4, 5, 6, 7, 8] (by decide) rfl
      refine lv_iinc (v := off k1) (lv' := [(1, .int (off k1)), (0, .ref y)]) hx hb dX3_retain_50 hl (k := 1) rfl (off_m k1) (by decide) rfl (fun ls hl => ?_)
      refine lv_goto (tgt := 10) hx hb dX3_retain_53 (by decide) ?_
      exact ih ((k1, m - 1, shf fa1 k1 (m - 1), shf fb1 k1 (m - 1), shf fv1 k1 (m - 1))) _ _ _ ⟨hP, hD, hS, lv_sub hl [1, 0] rfl, by omega, by omega, by rw [rl_era (show k1 < m by omega)]; exact hF.del hFe.symm (pB_f (fun q => q.elim fun e' h => hnf e' h.1 h.2))⟩ (by first | omega | (dsimp only; omega))

set_option maxHeartbeats 4000000 in
set_option maxRecDepth 100000 in
theorem c_X3_order (l : Launch) (a b c1 d : Int32) : Met l yX3_order wsX3_order { frames := 0, cells := 0, slots := 0, locals := 0 } (va_Pc [.int a, .int b, .int c1, .int d] (fun _ => True)) (vp_Si (fun r => OrdR (pk a b) (pk c1 d) 0 r)) 0 0 (fun _ => False) := by
  refine Met.ofW (cc := cX3_order) (maxL := 4) (ret := (some .int)) (by decide) rfl ?_
  intro p e s m args below meth c s₁ B hml hv
  obtain ⟨rfl, -⟩ := hv
  have hx := B.exec
  have hb := B.bytes
  have hr := B.returns
  have hts := atoms_spec (ws := wsX3_order) B.pre
  have hown : s.vm.findClass RX3 = some m.cls := findClass_of_methodNamed B.named
  have hlocks := B.notSynchronized
  have hl := lv_entry ([.int a, .int b, .int c1, .int d]) (n := 4) (Nat.le_of_ble_eq_true rfl)
  rw [lg_entry_eq]
  generalize (lg_sl ([.int a, .int b, .int c1, .int d]) ++ List.replicate (4 - (lg_sl ([.int a, .int b, .int c1, .int d])).length) Slot.unset).toArray = ls at hl ⊢
  have hl : lv_has ls 4 [(0, .int a), (1, .int b), (2, .int c1), (3, .int d)] := hl
  refine lv_iload_n hx hb dX3_order_0 rfl (lv_at hl 0 rfl) ?_
  refine lv_iload_n hx hb dX3_order_1 rfl (lv_at hl 2 rfl) ?_
  refine lv_icmp_eq (tgt := 18) hx hb dX3_order_2 (by decide) (fun c_2 => ?_) (fun c_2 => ?_)
  · refine lv_iload_n hx hb dX3_order_18 rfl (lv_at hl 1 rfl) ?_
    refine lv_iload_n hx hb dX3_order_19 rfl (lv_at hl 3 rfl) ?_
    refine lv_icmp_eq (tgt := 36) hx hb dX3_order_20 (by decide) (fun c_20 => ?_) (fun c_20 => ?_)
    · refine lv_iconst (v := nI 0) hx hb dX3_order_36 (by decide) ?_
      exact W.iret (v := nI 0) hx hb hr (fun t ht hW => ⟨nI 0, rfl, Or.inr (Or.inr ⟨by rw [c_2, c_20], rfl⟩), ht⟩) (fun _ h => nomatch h) dX3_order_37
    · refine lv_iload_n hx hb dX3_order_23 rfl (lv_at hl 1 rfl) ?_
      refine lv_iload_n hx hb dX3_order_24 rfl (lv_at hl 3 rfl) ?_
      refine lv_icmp_ge (tgt := 32) hx hb dX3_order_25 (by decide) (fun c_25 => ?_) (fun c_25 => ?_)
      · refine lv_iconst (v := nI 1) hx hb dX3_order_32 (by decide) ?_
        refine lv_goto (tgt := 37) hx hb dX3_order_33 (by decide) ?_
        exact W.iret (v := nI 1) hx hb hr (fun t ht hW => ⟨nI 1, rfl, Or.inr (Or.inl ⟨pkl_lt.mpr (Or.inr ⟨c_2.symm, i32_tri c_20 (Int32.not_lt.mpr c_25)⟩), rfl⟩), ht⟩) (fun _ h => nomatch h) dX3_order_37
      · refine lv_iconst (v := (-1)) hx hb dX3_order_28 (by decide) ?_
        refine lv_goto (tgt := 37) hx hb dX3_order_29 (by decide) ?_
        exact W.iret (v := (-1)) hx hb hr (fun t ht hW => ⟨(-1), rfl, Or.inl ⟨pkl_lt.mpr (Or.inr ⟨c_2, Int32.not_le.mp c_25⟩), rfl⟩, ht⟩) (fun _ h => nomatch h) dX3_order_37
  · refine lv_iload_n hx hb dX3_order_5 rfl (lv_at hl 0 rfl) ?_
    refine lv_iload_n hx hb dX3_order_6 rfl (lv_at hl 2 rfl) ?_
    refine lv_icmp_ge (tgt := 14) hx hb dX3_order_7 (by decide) (fun c_7 => ?_) (fun c_7 => ?_)
    · refine lv_iconst (v := nI 1) hx hb dX3_order_14 (by decide) ?_
      refine lv_goto (tgt := 37) hx hb dX3_order_15 (by decide) ?_
      exact W.iret (v := nI 1) hx hb hr (fun t ht hW => ⟨nI 1, rfl, Or.inr (Or.inl ⟨pkl_lt.mpr (Or.inl (i32_tri c_2 (Int32.not_lt.mpr c_7))), rfl⟩), ht⟩) (fun _ h => nomatch h) dX3_order_37
    · refine lv_iconst (v := (-1)) hx hb dX3_order_10 (by decide) ?_
      refine lv_goto (tgt := 37) hx hb dX3_order_11 (by decide) ?_
      exact W.iret (v := (-1)) hx hb hr (fun t ht hW => ⟨(-1), rfl, Or.inl ⟨pkl_lt.mpr (Or.inl (Int32.not_le.mp c_7)), rfl⟩, ht⟩) (fun _ h => nomatch h) dX3_order_37

set_option maxHeartbeats 4000000 in
set_option maxRecDepth 100000 in
theorem c_X3_rank (l : Launch) (D : va_G) (cI cJ : ClassId) (y r0 r1 r2 r3 r4 r5 wd tp wm tm : Nat) (a0 b0 v0 cap n : Nat) (fa fb : Nat → Int32) (fv : Nat → Int64) (hn : n ≤ cap) (hc : cap ≤ 1100) (h16 : 16 ≤ cap) (hn5 : n ≤ 549) (a b z : Int32) (sz : Nat) : Met l yX3_rank wsX3_rank { frames := 1, cells := 3, slots := 6600, locals := 28 } (va_Pc [.ref y, .int a, .int b, .int z] (wP D cI cJ [(y, .inr (3, [.ref r0, .ref r1, .ref r2, .ref r3, .ref r4, .ref r5, .ref wd, .ref tp, .int (nI wm), .int (nI tm)])), (r2, .inr (2, [.ref a0, .ref b0, .ref v0, .int (nI n)])), (a0, .inl (cI, cap, .inl fa)), (b0, .inl (cI, cap, .inl fb)), (v0, .inl (cJ, cap, .inr (.inl fv)))] sz)) (va_Ql (fun r (u : Nat × Nat × Nat × Nat × Nat × (Nat → Int32) × (Nat → Int32) × (Nat → Int64)) => match u with | (a', b', v', cap', n', fa', fb', fv') => ROK n' cap' ∧ (StL (rl n fa fb fv) a b z.toInt64 r (rl n' fa' fb' fv'))) (wB D cI cJ (va_A [(y, .inr (3, [.ref r0, .ref r1, .ref r2, .ref r3, .ref r4, .ref r5, .ref wd, .ref tp, .int (nI wm), .int (nI tm)])), (r2, .inr (2, [.ref a0, .ref b0, .ref v0, .int (nI n)])), (a0, .inl (cI, cap, .inl fa)), (b0, .inl (cI, cap, .inl fb)), (v0, .inl (cJ, cap, .inr (.inl fv)))] sz) (fun (a', b', v', cap', n', fa', fb', fv') => [(y, .inr (3, [.ref r0, .ref r1, .ref r2, .ref r3, .ref r4, .ref r5, .ref wd, .ref tp, .int (nI wm), .int (nI tm)])), (r2, .inr (2, [.ref a', .ref b', .ref v', .int (nI n')])), (a', .inl (cI, cap', .inl fa')), (b', .inl (cI, cap', .inl fb')), (v', .inl (cJ, cap', .inr (.inl fv')))])) (va_A [(y, .inr (3, [.ref r0, .ref r1, .ref r2, .ref r3, .ref r4, .ref r5, .ref wd, .ref tp, .int (nI wm), .int (nI tm)])), (r2, .inr (2, [.ref a0, .ref b0, .ref v0, .int (nI n)])), (a0, .inl (cI, cap, .inl fa)), (b0, .inl (cI, cap, .inl fb)), (v0, .inl (cJ, cap, .inr (.inl fv)))] sz)) 3 6600 (va_A [(y, .inr (3, [.ref r0, .ref r1, .ref r2, .ref r3, .ref r4, .ref r5, .ref wd, .ref tp, .int (nI wm), .int (nI tm)])), (r2, .inr (2, [.ref a0, .ref b0, .ref v0, .int (nI n)])), (a0, .inl (cI, cap, .inl fa)), (b0, .inl (cI, cap, .inl fb)), (v0, .inl (cJ, cap, .inr (.inl fv)))] sz) := by
  refine Met.ofW (cc := cX3_rank) (maxL := 7) (ret := (some .long)) (by decide) rfl ?_
  intro p e s m args below meth c s₁ B hml hv
  obtain ⟨rfl, hsz, hP, hK, hD0⟩ := hv
  have hx := B.exec
  have hb := B.bytes
  have hr := B.returns
  have hts := atoms_spec (ws := wsX3_rank) B.pre
  have hown : s.vm.findClass RX3 = some m.cls := findClass_of_methodNamed B.named
  have hlocks := B.notSynchronized
  have lk0 := hts (.fieldLink RX3 19 "KeyHallModel" "rising" "LKeyHallModel$Rows;") (by decide +kernel)
  have lk1 : ∀ w ∈ wsX30, w ∈ wsX3_rank := by decide +kernel
  have lk2 := hts (.fieldLink RX3 50 "KeyHallModel$Rows" "v" "[J") (by decide +kernel)
  have lk3 : ∀ w ∈ wsX20, w ∈ wsX3_rank := by decide +kernel
  subst hsz
  have hD := hD0.self (sz := s.heap.size)
  generalize hAe : va_A [(y, .inr (3, [.ref r0, .ref r1, .ref r2, .ref r3, .ref r4, .ref r5, .ref wd, .ref tp, .int (nI wm), .int (nI tm)])), (r2, .inr (2, [.ref a0, .ref b0, .ref v0, .int (nI n)])), (a0, .inl (cI, cap, .inl fa)), (b0, .inl (cI, cap, .inl fb)), (v0, .inl (cJ, cap, .inr (.inl fv)))] s.heap.size = A at hD ⊢
  have hA : ∀ q : Nat, s.heap.size ≤ q → A q := fun q h => by rw [← hAe]; exact Or.inr h
  have hS : va_S A s.heap s.heap [] := va_S.rf
  have hP : va_P D vwCl [(y, .inr (3, [.ref r0, .ref r1, .ref r2, .ref r3, .ref r4, .ref r5, .ref wd, .ref tp, .int (nI wm), .int (nI tm)])), (r2, .inr (2, [.ref a0, .ref b0, .ref v0, .int (nI n)])), (a0, .inl (cI, cap, .inl fa)), (b0, .inl (cI, cap, .inl fb)), (v0, .inl (cJ, cap, .inr (.inl fv)))] s.heap := hP
  have hl := lv_entry ([.ref y, .int a, .int b, .int z]) (n := 7) (Nat.le_of_ble_eq_true rfl)
  rw [lg_entry_eq]
  generalize (lg_sl ([.ref y, .int a, .int b, .int z]) ++ List.replicate (7 - (lg_sl ([.ref y, .int a, .int b, .int z])).length) Slot.unset).toArray = ls at hl ⊢
  have hl : lv_has ls 7 [(0, .ref y), (1, .int a), (2, .int b), (3, .int z)] := hl
  refine lv_aload_n hx hb dX3_rank_0 rfl (lv_at hl 0 rfl) ?_
  refine va_get (D := D) (ci := 3) (v := .ref r2) (C := RX3) (T := TX3) (N := 10) hx hb hts lk1 hown hK hP 0 rfl rfl 2 (by decide) lk0 (fun _ h9 => h9) rfl dX3_rank_1 ?_
  refine lv_iload_n hx hb dX3_rank_4 rfl (lv_at hl 1 rfl) ?_
  refine lv_iload_n hx hb dX3_rank_5 rfl (lv_at hl 2 rfl) ?_
  refine vp_callSi (va_Run.run (va_runV (As := [.int a, .int b]) (rest := []) ⟨hx, hb, hml, hown, hts⟩ (c_X2_find l D cI cJ r2 a0 b0 v0 cap n fa fb fv a b (by omega) (by omega)) (cwV 2 hts gX3_rank_X2_find rfl rfl rfl (by decide +kernel) ⟨Nat.le_of_ble_eq_true rfl, Nat.le_of_ble_eq_true rfl⟩) (z_preV hK hP [1, 2, 3, 4] rfl 2 1 rfl rfl) rfl rfl hl.1 rfl (lv_room (Nat.le_of_ble_eq_true rfl)) dX3_rank_6 ⟨by show _ ≤ 3; omega, by show _ ≤ 6600; omega⟩)) (fun r_1 hr_1 => ?_)
  rcases hr_1 with ⟨j_2, e_f, he, hea, heb, rfl⟩ | ⟨hnf, rfl⟩
  · obtain ⟨hj, hja, hjb, hjv⟩ := rl_lt he
    refine lv_istore (lv' := [(4, .int (nI j_2)), (0, .ref y), (1, .int a), (2, .int b), (3, .int z)]) hx hb dX3_rank_9 hl (by decide) rfl (fun ls hl => ?_)
    refine lv_aload_n hx hb dX3_rank_11 rfl (lv_at hl 1 rfl) ?_
    refine va_get (D := D) (ci := 3) (v := .ref r2) (C := RX3) (T := TX3) (N := 10) hx hb hts lk1 hown hK hP 0 rfl rfl 2 (by decide) lk0 (fun _ h9 => h9) rfl dX3_rank_12 ?_
    refine lv_iload hx hb dX3_rank_15 (lv_at hl 0 rfl) ?_
    refine vp_callSl (va_Run.run (va_runS (As := [.ref r2, .int (nI j_2)]) (rest := []) ⟨hx, hb, hml, hown, hts⟩ (c_X3_told l D cI cJ r2 a0 b0 v0 cap n fa fb fv (nI j_2) (by omega) (by omega) (Or.inr ⟨_, by omega, rfl⟩)) (va_cwS 2 hts gX3_rank_X3_told rfl rfl rfl (by decide +kernel) ⟨Nat.le_of_ble_eq_true rfl, Nat.le_of_ble_eq_true rfl⟩) (z_preS hK hP [1, 2, 3, 4] rfl) rfl rfl hl.1 rfl (lv_room (Nat.le_of_ble_eq_true rfl)) dX3_rank_17 ⟨by show _ ≤ 3; omega, by show _ ≤ 6600; omega⟩)) (fun r_3 hr_3 => ?_)
    replace hr_3 := hr_3.symm
    subst hr_3
    refine z_topl (y := fv j_2) (tld_N (by omega)) ?_
    refine lv_lstore (lv' := [(5, .long (fv j_2)), (4, .int (nI j_2)), (0, .ref y), (1, .int a), (2, .int b), (3, .int z)]) hx hb dX3_rank_20 hl (by decide) rfl (fun ls hl => ?_)
    refine lv_iload hx hb dX3_rank_22 (lv_at hl 1 rfl) ?_
    refine z_if_ge (tgt := 41) hx hb dX3_rank_24 (by decide) (by omega) ?_
    refine lv_aload_n hx hb dX3_rank_41 rfl (lv_at hl 2 rfl) ?_
    refine va_get (D := D) (ci := 3) (v := .ref r2) (C := RX3) (T := TX3) (N := 10) hx hb hts lk1 hown hK hP 0 rfl rfl 2 (by decide) lk0 (fun _ h9 => h9) rfl dX3_rank_42 ?_
    refine va_get (D := D) (ci := 2) (v := .ref v0) (C := RX2) (T := TX2) (N := 4) hx hb hts lk3 hown hK hP 1 rfl rfl 2 (by decide) lk2 (fun _ h9 => h9) rfl dX3_rank_45 ?_
    refine lv_iload hx hb dX3_rank_48 (lv_at hl 1 rfl) ?_
    refine lv_iload_n hx hb dX3_rank_50 rfl (lv_at hl 5 rfl) ?_
    refine lv_i2l (v := z.toInt64) hx hb dX3_rank_51 rfl ?_
    refine z_last hx hb hK hP hD hS 4 rfl (j := j_2) (by omega) (by omega) dX3_rank_52 (fun H locs hP hD hS => ?_)
    have hP : va_P D vwCl [(y, .inr (3, [.ref r0, .ref r1, .ref r2, .ref r3, .ref r4, .ref r5, .ref wd, .ref tp, .int (nI wm), .int (nI tm)])), (r2, .inr (2, [.ref a0, .ref b0, .ref v0, .int (nI n)])), (a0, .inl (cI, cap, .inl fa)), (b0, .inl (cI, cap, .inl fb)), (v0, .inl (cJ, cap, .inr (.inl (vp_updL fv j_2 z.toInt64))))] H := hP
    have hD : va_D A [(y, .inr (3, [.ref r0, .ref r1, .ref r2, .ref r3, .ref r4, .ref r5, .ref wd, .ref tp, .int (nI wm), .int (nI tm)])), (r2, .inr (2, [.ref a0, .ref b0, .ref v0, .int (nI n)])), (a0, .inl (cI, cap, .inl fa)), (b0, .inl (cI, cap, .inl fb)), (v0, .inl (cJ, cap, .inr (.inl (vp_updL fv j_2 z.toInt64))))] := hD
    refine lv_lload hx hb dX3_rank_53 (lv_at hl 0 rfl) ?_
    refine W.widen (k := 3) (n := 6600) (by omega) (by omega) ?_
    exact W.lret (v := fv j_2) hx hb hr (fun t ht hW => ⟨⟨fv j_2, (a0, b0, v0, cap, n, fa, fb, vp_updL fv j_2 z.toInt64), rfl, ⟨⟨hn, h16, hc⟩, Or.inl ⟨j_2, e_f, he, hea, heb, hjv, by rw [rl_set, hja, hea, hjb, heb]⟩⟩, by rw [ht]; exact (hP.sub [0, 1, 2, 3, 4] rfl), va_K.moved hW.alike hK, (hD.sub [0, 1, 2, 3, 4] (by decide) rfl)⟩, hS.F ht⟩) hS.2.2 dX3_rank_55
  · refine lv_istore (lv' := [(4, .int (-1)), (0, .ref y), (1, .int a), (2, .int b), (3, .int z)]) hx hb dX3_rank_9 hl (by decide) rfl (fun ls hl => ?_)
    refine lv_aload_n hx hb dX3_rank_11 rfl (lv_at hl 1 rfl) ?_
    refine va_get (D := D) (ci := 3) (v := .ref r2) (C := RX3) (T := TX3) (N := 10) hx hb hts lk1 hown hK hP 0 rfl rfl 2 (by decide) lk0 (fun _ h9 => h9) rfl dX3_rank_12 ?_
    refine lv_iload hx hb dX3_rank_15 (lv_at hl 0 rfl) ?_
    refine vp_callSl (va_Run.run (va_runS (As := [.ref r2, .int (-1)]) (rest := []) ⟨hx, hb, hml, hown, hts⟩ (c_X3_told l D cI cJ r2 a0 b0 v0 cap n fa fb fv (-1) (by omega) (by omega) (Or.inl rfl)) (va_cwS 2 hts gX3_rank_X3_told rfl rfl rfl (by decide +kernel) ⟨Nat.le_of_ble_eq_true rfl, Nat.le_of_ble_eq_true rfl⟩) (z_preS hK hP [1, 2, 3, 4] rfl) rfl rfl hl.1 rfl (lv_room (Nat.le_of_ble_eq_true rfl)) dX3_rank_17 ⟨by show _ ≤ 3; omega, by show _ ≤ 6600; omega⟩)) (fun r_4 hr_4 => ?_)
    replace hr_4 := hr_4.symm
    subst hr_4
    refine z_topl (y := NO) (tld_m) ?_
    refine lv_lstore (lv' := [(5, .long NO), (4, .int (-1)), (0, .ref y), (1, .int a), (2, .int b), (3, .int z)]) hx hb dX3_rank_20 hl (by decide) rfl (fun ls hl => ?_)
    refine lv_iload hx hb dX3_rank_22 (lv_at hl 1 rfl) ?_
    refine lv_if_ge (tgt := 41) hx hb dX3_rank_24 (by decide) (fun q => absurd q (by decide)) (fun _ => ?_)
    refine lv_aload_n hx hb dX3_rank_27 rfl (lv_at hl 2 rfl) ?_
    refine va_get (D := D) (ci := 3) (v := .ref r2) (C := RX3) (T := TX3) (N := 10) hx hb hts lk1 hown hK hP 0 rfl rfl 2 (by decide) lk0 (fun _ h9 => h9) rfl dX3_rank_28 ?_
    refine lv_iload_n hx hb dX3_rank_31 rfl (lv_at hl 3 rfl) ?_
    refine lv_iload_n hx hb dX3_rank_32 rfl (lv_at hl 4 rfl) ?_
    refine lv_iload_n hx hb dX3_rank_33 rfl (lv_at hl 5 rfl) ?_
    refine lv_i2l (v := z.toInt64) hx hb dX3_rank_34 rfl ?_
    have hFc := va_free (wc := [(r2, .inr (2, [.ref a0, .ref b0, .ref v0, .int (nI n)])), (a0, .inl (cI, cap, .inl fa)), (b0, .inl (cI, cap, .inl fb)), (v0, .inl (cJ, cap, .inr (.inl fv)))]) hD hS hA [1, 2, 3, 4] rfl
    refine va_callv (va_runV (As := [.int a, .int b, .long z.toInt64]) (rest := []) ⟨hx, hb, hml, hown, hts⟩ (c_X2_add l D cI cJ r2 a0 b0 v0 cap n fa fb fv a b z.toInt64  (by omega) (by omega) (by omega) 3 6600 (fun _ => ⟨by omega, by omega⟩) s.heap.size) (cwV 3 hts gX3_rank_X2_add rfl rfl rfl (by decide +kernel) ⟨Nat.le_of_ble_eq_true rfl, Nat.le_of_ble_eq_true rfl⟩) (z_preVw hK hP hD [1, 2, 3, 4] (by decide) rfl rfl 2 1 rfl rfl) rfl rfl hl.1 rfl (lv_room (Nat.le_of_ble_eq_true rfl)) dX3_rank_35 ⟨by show _ ≤ 3; omega, by show _ ≤ 6600; omega⟩) hS (fun q _ h => hFc q h) hFc (fun u_6 t H1 locs ht hvm hr_5 hB hzz1 hkk1 hS => ?_)
    obtain ⟨a7, b7, v7, cap7, fa7, fb7, fv7⟩ := u_6
    obtain ⟨hP1, hK1, hD1⟩ := hB
    rw [ht] at hP1
    try dsimp only at hr_5
    obtain ⟨hP, hD⟩ := va_join (wr := [(y, .inr (3, [.ref r0, .ref r1, .ref r2, .ref r3, .ref r4, .ref r5, .ref wd, .ref tp, .int (nI wm), .int (nI tm)]))]) (w1 := [(r2, .inr (2, [.ref a7, .ref b7, .ref v7, .int (nI (n + 1))])), (a7, .inl (cI, cap7, .inl fa7)), (b7, .inl (cI, cap7, .inl fb7)), (v7, .inl (cJ, cap7, .inr (.inl fv7)))]) hP hD [1, 2, 3, 4] [0] rfl rfl (by decide) (by decide) hkk1 hFc hP1 hD1
    generalize H1 = H at hP hS ⊢
    have hP : va_P D vwCl [(y, .inr (3, [.ref r0, .ref r1, .ref r2, .ref r3, .ref r4, .ref r5, .ref wd, .ref tp, .int (nI wm), .int (nI tm)])), (r2, .inr (2, [.ref a7, .ref b7, .ref v7, .int (nI (n + 1))])), (a7, .inl (cI, cap7, .inl fa7)), (b7, .inl (cI, cap7, .inl fb7)), (v7, .inl (cJ, cap7, .inr (.inl fv7)))] H := hP.sub [0, 1, 2, 3, 4] rfl
    have hD : va_D A [(y, .inr (3, [.ref r0, .ref r1, .ref r2, .ref r3, .ref r4, .ref r5, .ref wd, .ref tp, .int (nI wm), .int (nI tm)])), (r2, .inr (2, [.ref a7, .ref b7, .ref v7, .int (nI (n + 1))])), (a7, .inl (cI, cap7, .inl fa7)), (b7, .inl (cI, cap7, .inl fb7)), (v7, .inl (cJ, cap7, .inr (.inl fv7)))] := hD.sub [0, 1, 2, 3, 4] (by decide) rfl
    obtain ⟨had, hca, hcb, hcc, hcd⟩ := hr_5
    refine lv_goto (tgt := 53) hx hb dX3_rank_38 (by decide) ?_
    refine lv_lload hx hb dX3_rank_53 (lv_at hl 0 rfl) ?_
    refine W.widen (k := 3) (n := 6600) (by omega) (by omega) ?_
    exact W.lret (v := NO) hx hb hr (fun t ht hW => ⟨⟨NO, (a7, b7, v7, cap7, n + 1, fa7, fb7, fv7), rfl, ⟨⟨hca, hcb, by omega⟩, Or.inr ⟨hnf, rfl, had⟩⟩, by rw [ht]; exact (hP.sub [0, 1, 2, 3, 4] rfl), va_K.moved hW.alike hK, (hD.sub [0, 1, 2, 3, 4] (by decide) rfl)⟩, hS.F ht⟩) hS.2.2 dX3_rank_55

set_option maxHeartbeats 4000000 in
set_option maxRecDepth 100000 in
theorem c_X3_put (l : Launch) (D : va_G) (cI cJ : ClassId) (y r0 r1 r2 r3 r4 r5 wd tp wm tm : Nat) (a0 b0 v0 cap n : Nat) (fa fb : Nat → Int32) (fv : Nat → Int64) (hn : n ≤ cap) (hc : cap ≤ 1100) (h16 : 16 ≤ cap) (hn5 : n ≤ 549) (a b z : Int32) (sz : Nat) : Met l yX3_put wsX3_put { frames := 1, cells := 3, slots := 6600, locals := 28 } (va_Pc [.ref y, .int a, .int b, .int z] (wP D cI cJ [(y, .inr (3, [.ref r0, .ref r1, .ref r2, .ref r3, .ref r4, .ref r5, .ref wd, .ref tp, .int (nI wm), .int (nI tm)])), (r4, .inr (2, [.ref a0, .ref b0, .ref v0, .int (nI n)])), (a0, .inl (cI, cap, .inl fa)), (b0, .inl (cI, cap, .inl fb)), (v0, .inl (cJ, cap, .inr (.inl fv)))] sz)) (va_Ql (fun r (u : Nat × Nat × Nat × Nat × Nat × (Nat → Int32) × (Nat → Int32) × (Nat → Int64)) => match u with | (a', b', v', cap', n', fa', fb', fv') => ROK n' cap' ∧ (StL (rl n fa fb fv) a b z.toInt64 r (rl n' fa' fb' fv'))) (wB D cI cJ (va_A [(y, .inr (3, [.ref r0, .ref r1, .ref r2, .ref r3, .ref r4, .ref r5, .ref wd, .ref tp, .int (nI wm), .int (nI tm)])), (r4, .inr (2, [.ref a0, .ref b0, .ref v0, .int (nI n)])), (a0, .inl (cI, cap, .inl fa)), (b0, .inl (cI, cap, .inl fb)), (v0, .inl (cJ, cap, .inr (.inl fv)))] sz) (fun (a', b', v', cap', n', fa', fb', fv') => [(y, .inr (3, [.ref r0, .ref r1, .ref r2, .ref r3, .ref r4, .ref r5, .ref wd, .ref tp, .int (nI wm), .int (nI tm)])), (r4, .inr (2, [.ref a', .ref b', .ref v', .int (nI n')])), (a', .inl (cI, cap', .inl fa')), (b', .inl (cI, cap', .inl fb')), (v', .inl (cJ, cap', .inr (.inl fv')))])) (va_A [(y, .inr (3, [.ref r0, .ref r1, .ref r2, .ref r3, .ref r4, .ref r5, .ref wd, .ref tp, .int (nI wm), .int (nI tm)])), (r4, .inr (2, [.ref a0, .ref b0, .ref v0, .int (nI n)])), (a0, .inl (cI, cap, .inl fa)), (b0, .inl (cI, cap, .inl fb)), (v0, .inl (cJ, cap, .inr (.inl fv)))] sz)) 3 6600 (va_A [(y, .inr (3, [.ref r0, .ref r1, .ref r2, .ref r3, .ref r4, .ref r5, .ref wd, .ref tp, .int (nI wm), .int (nI tm)])), (r4, .inr (2, [.ref a0, .ref b0, .ref v0, .int (nI n)])), (a0, .inl (cI, cap, .inl fa)), (b0, .inl (cI, cap, .inl fb)), (v0, .inl (cJ, cap, .inr (.inl fv)))] sz) := by
  refine Met.ofW (cc := cX3_put) (maxL := 7) (ret := (some .long)) (by decide) rfl ?_
  intro p e s m args below meth c s₁ B hml hv
  obtain ⟨rfl, hsz, hP, hK, hD0⟩ := hv
  have hx := B.exec
  have hb := B.bytes
  have hr := B.returns
  have hts := atoms_spec (ws := wsX3_put) B.pre
  have hown : s.vm.findClass RX3 = some m.cls := findClass_of_methodNamed B.named
  have hlocks := B.notSynchronized
  have lk0 := hts (.fieldLink RX3 25 "KeyHallModel" "table" "LKeyHallModel$Rows;") (by decide +kernel)
  have lk1 : ∀ w ∈ wsX30, w ∈ wsX3_put := by decide +kernel
  have lk2 := hts (.fieldLink RX3 50 "KeyHallModel$Rows" "v" "[J") (by decide +kernel)
  have lk3 : ∀ w ∈ wsX20, w ∈ wsX3_put := by decide +kernel
  subst hsz
  have hD := hD0.self (sz := s.heap.size)
  generalize hAe : va_A [(y, .inr (3, [.ref r0, .ref r1, .ref r2, .ref r3, .ref r4, .ref r5, .ref wd, .ref tp, .int (nI wm), .int (nI tm)])), (r4, .inr (2, [.ref a0, .ref b0, .ref v0, .int (nI n)])), (a0, .inl (cI, cap, .inl fa)), (b0, .inl (cI, cap, .inl fb)), (v0, .inl (cJ, cap, .inr (.inl fv)))] s.heap.size = A at hD ⊢
  have hA : ∀ q : Nat, s.heap.size ≤ q → A q := fun q h => by rw [← hAe]; exact Or.inr h
  have hS : va_S A s.heap s.heap [] := va_S.rf
  have hP : va_P D vwCl [(y, .inr (3, [.ref r0, .ref r1, .ref r2, .ref r3, .ref r4, .ref r5, .ref wd, .ref tp, .int (nI wm), .int (nI tm)])), (r4, .inr (2, [.ref a0, .ref b0, .ref v0, .int (nI n)])), (a0, .inl (cI, cap, .inl fa)), (b0, .inl (cI, cap, .inl fb)), (v0, .inl (cJ, cap, .inr (.inl fv)))] s.heap := hP
  have hl := lv_entry ([.ref y, .int a, .int b, .int z]) (n := 7) (Nat.le_of_ble_eq_true rfl)
  rw [lg_entry_eq]
  generalize (lg_sl ([.ref y, .int a, .int b, .int z]) ++ List.replicate (7 - (lg_sl ([.ref y, .int a, .int b, .int z])).length) Slot.unset).toArray = ls at hl ⊢
  have hl : lv_has ls 7 [(0, .ref y), (1, .int a), (2, .int b), (3, .int z)] := hl
  refine lv_aload_n hx hb dX3_put_0 rfl (lv_at hl 0 rfl) ?_
  refine va_get (D := D) (ci := 3) (v := .ref r4) (C := RX3) (T := TX3) (N := 10) hx hb hts lk1 hown hK hP 0 rfl rfl 4 (by decide) lk0 (fun _ h9 => h9) rfl dX3_put_1 ?_
  refine lv_iload_n hx hb dX3_put_4 rfl (lv_at hl 1 rfl) ?_
  refine lv_iload_n hx hb dX3_put_5 rfl (lv_at hl 2 rfl) ?_
  refine vp_callSi (va_Run.run (va_runV (As := [.int a, .int b]) (rest := []) ⟨hx, hb, hml, hown, hts⟩ (c_X2_find l D cI cJ r4 a0 b0 v0 cap n fa fb fv a b (by omega) (by omega)) (cwV 2 hts gX3_put_X2_find rfl rfl rfl (by decide +kernel) ⟨Nat.le_of_ble_eq_true rfl, Nat.le_of_ble_eq_true rfl⟩) (z_preV hK hP [1, 2, 3, 4] rfl 2 1 rfl rfl) rfl rfl hl.1 rfl (lv_room (Nat.le_of_ble_eq_true rfl)) dX3_put_6 ⟨by show _ ≤ 3; omega, by show _ ≤ 6600; omega⟩)) (fun r_1 hr_1 => ?_)
  rcases hr_1 with ⟨j_2, e_f, he, hea, heb, rfl⟩ | ⟨hnf, rfl⟩
  · obtain ⟨hj, hja, hjb, hjv⟩ := rl_lt he
    refine lv_istore (lv' := [(4, .int (nI j_2)), (0, .ref y), (1, .int a), (2, .int b), (3, .int z)]) hx hb dX3_put_9 hl (by decide) rfl (fun ls hl => ?_)
    refine lv_aload_n hx hb dX3_put_11 rfl (lv_at hl 1 rfl) ?_
    refine va_get (D := D) (ci := 3) (v := .ref r4) (C := RX3) (T := TX3) (N := 10) hx hb hts lk1 hown hK hP 0 rfl rfl 4 (by decide) lk0 (fun _ h9 => h9) rfl dX3_put_12 ?_
    refine lv_iload hx hb dX3_put_15 (lv_at hl 0 rfl) ?_
    refine vp_callSl (va_Run.run (va_runS (As := [.ref r4, .int (nI j_2)]) (rest := []) ⟨hx, hb, hml, hown, hts⟩ (c_X3_told l D cI cJ r4 a0 b0 v0 cap n fa fb fv (nI j_2) (by omega) (by omega) (Or.inr ⟨_, by omega, rfl⟩)) (va_cwS 2 hts gX3_put_X3_told rfl rfl rfl (by decide +kernel) ⟨Nat.le_of_ble_eq_true rfl, Nat.le_of_ble_eq_true rfl⟩) (z_preS hK hP [1, 2, 3, 4] rfl) rfl rfl hl.1 rfl (lv_room (Nat.le_of_ble_eq_true rfl)) dX3_put_17 ⟨by show _ ≤ 3; omega, by show _ ≤ 6600; omega⟩)) (fun r_3 hr_3 => ?_)
    replace hr_3 := hr_3.symm
    subst hr_3
    refine z_topl (y := fv j_2) (tld_N (by omega)) ?_
    refine lv_lstore (lv' := [(5, .long (fv j_2)), (4, .int (nI j_2)), (0, .ref y), (1, .int a), (2, .int b), (3, .int z)]) hx hb dX3_put_20 hl (by decide) rfl (fun ls hl => ?_)
    refine lv_iload hx hb dX3_put_22 (lv_at hl 1 rfl) ?_
    refine z_if_ge (tgt := 41) hx hb dX3_put_24 (by decide) (by omega) ?_
    refine lv_aload_n hx hb dX3_put_41 rfl (lv_at hl 2 rfl) ?_
    refine va_get (D := D) (ci := 3) (v := .ref r4) (C := RX3) (T := TX3) (N := 10) hx hb hts lk1 hown hK hP 0 rfl rfl 4 (by decide) lk0 (fun _ h9 => h9) rfl dX3_put_42 ?_
    refine va_get (D := D) (ci := 2) (v := .ref v0) (C := RX2) (T := TX2) (N := 4) hx hb hts lk3 hown hK hP 1 rfl rfl 2 (by decide) lk2 (fun _ h9 => h9) rfl dX3_put_45 ?_
    refine lv_iload hx hb dX3_put_48 (lv_at hl 1 rfl) ?_
    refine lv_iload_n hx hb dX3_put_50 rfl (lv_at hl 5 rfl) ?_
    refine lv_i2l (v := z.toInt64) hx hb dX3_put_51 rfl ?_
    refine z_last hx hb hK hP hD hS 4 rfl (j := j_2) (by omega) (by omega) dX3_put_52 (fun H locs hP hD hS => ?_)
    have hP : va_P D vwCl [(y, .inr (3, [.ref r0, .ref r1, .ref r2, .ref r3, .ref r4, .ref r5, .ref wd, .ref tp, .int (nI wm), .int (nI tm)])), (r4, .inr (2, [.ref a0, .ref b0, .ref v0, .int (nI n)])), (a0, .inl (cI, cap, .inl fa)), (b0, .inl (cI, cap, .inl fb)), (v0, .inl (cJ, cap, .inr (.inl (vp_updL fv j_2 z.toInt64))))] H := hP
    have hD : va_D A [(y, .inr (3, [.ref r0, .ref r1, .ref r2, .ref r3, .ref r4, .ref r5, .ref wd, .ref tp, .int (nI wm), .int (nI tm)])), (r4, .inr (2, [.ref a0, .ref b0, .ref v0, .int (nI n)])), (a0, .inl (cI, cap, .inl fa)), (b0, .inl (cI, cap, .inl fb)), (v0, .inl (cJ, cap, .inr (.inl (vp_updL fv j_2 z.toInt64))))] := hD
    refine lv_lload hx hb dX3_put_53 (lv_at hl 0 rfl) ?_
    refine W.widen (k := 3) (n := 6600) (by omega) (by omega) ?_
    exact W.lret (v := fv j_2) hx hb hr (fun t ht hW => ⟨⟨fv j_2, (a0, b0, v0, cap, n, fa, fb, vp_updL fv j_2 z.toInt64), rfl, ⟨⟨hn, h16, hc⟩, Or.inl ⟨j_2, e_f, he, hea, heb, hjv, by rw [rl_set, hja, hea, hjb, heb]⟩⟩, by rw [ht]; exact (hP.sub [0, 1, 2, 3, 4] rfl), va_K.moved hW.alike hK, (hD.sub [0, 1, 2, 3, 4] (by decide) rfl)⟩, hS.F ht⟩) hS.2.2 dX3_put_55
  · refine lv_istore (lv' := [(4, .int (-1)), (0, .ref y), (1, .int a), (2, .int b), (3, .int z)]) hx hb dX3_put_9 hl (by decide) rfl (fun ls hl => ?_)
    refine lv_aload_n hx hb dX3_put_11 rfl (lv_at hl 1 rfl) ?_
    refine va_get (D := D) (ci := 3) (v := .ref r4) (C := RX3) (T := TX3) (N := 10) hx hb hts lk1 hown hK hP 0 rfl rfl 4 (by decide) lk0 (fun _ h9 => h9) rfl dX3_put_12 ?_
    refine lv_iload hx hb dX3_put_15 (lv_at hl 0 rfl) ?_
    refine vp_callSl (va_Run.run (va_runS (As := [.ref r4, .int (-1)]) (rest := []) ⟨hx, hb, hml, hown, hts⟩ (c_X3_told l D cI cJ r4 a0 b0 v0 cap n fa fb fv (-1) (by omega) (by omega) (Or.inl rfl)) (va_cwS 2 hts gX3_put_X3_told rfl rfl rfl (by decide +kernel) ⟨Nat.le_of_ble_eq_true rfl, Nat.le_of_ble_eq_true rfl⟩) (z_preS hK hP [1, 2, 3, 4] rfl) rfl rfl hl.1 rfl (lv_room (Nat.le_of_ble_eq_true rfl)) dX3_put_17 ⟨by show _ ≤ 3; omega, by show _ ≤ 6600; omega⟩)) (fun r_4 hr_4 => ?_)
    replace hr_4 := hr_4.symm
    subst hr_4
    refine z_topl (y := NO) (tld_m) ?_
    refine lv_lstore (lv' := [(5, .long NO), (4, .int (-1)), (0, .ref y), (1, .int a), (2, .int b), (3, .int z)]) hx hb dX3_put_20 hl (by decide) rfl (fun ls hl => ?_)
    refine lv_iload hx hb dX3_put_22 (lv_at hl 1 rfl) ?_
    refine lv_if_ge (tgt := 41) hx hb dX3_put_24 (by decide) (fun q => absurd q (by decide)) (fun _ => ?_)
    refine lv_aload_n hx hb dX3_put_27 rfl (lv_at hl 2 rfl) ?_
    refine va_get (D := D) (ci := 3) (v := .ref r4) (C := RX3) (T := TX3) (N := 10) hx hb hts lk1 hown hK hP 0 rfl rfl 4 (by decide) lk0 (fun _ h9 => h9) rfl dX3_put_28 ?_
    refine lv_iload_n hx hb dX3_put_31 rfl (lv_at hl 3 rfl) ?_
    refine lv_iload_n hx hb dX3_put_32 rfl (lv_at hl 4 rfl) ?_
    refine lv_iload_n hx hb dX3_put_33 rfl (lv_at hl 5 rfl) ?_
    refine lv_i2l (v := z.toInt64) hx hb dX3_put_34 rfl ?_
    have hFc := va_free (wc := [(r4, .inr (2, [.ref a0, .ref b0, .ref v0, .int (nI n)])), (a0, .inl (cI, cap, .inl fa)), (b0, .inl (cI, cap, .inl fb)), (v0, .inl (cJ, cap, .inr (.inl fv)))]) hD hS hA [1, 2, 3, 4] rfl
    refine va_callv (va_runV (As := [.int a, .int b, .long z.toInt64]) (rest := []) ⟨hx, hb, hml, hown, hts⟩ (c_X2_add l D cI cJ r4 a0 b0 v0 cap n fa fb fv a b z.toInt64  (by omega) (by omega) (by omega) 3 6600 (fun _ => ⟨by omega, by omega⟩) s.heap.size) (cwV 3 hts gX3_put_X2_add rfl rfl rfl (by decide +kernel) ⟨Nat.le_of_ble_eq_true rfl, Nat.le_of_ble_eq_true rfl⟩) (z_preVw hK hP hD [1, 2, 3, 4] (by decide) rfl rfl 2 1 rfl rfl) rfl rfl hl.1 rfl (lv_room (Nat.le_of_ble_eq_true rfl)) dX3_put_35 ⟨by show _ ≤ 3; omega, by show _ ≤ 6600; omega⟩) hS (fun q _ h => hFc q h) hFc (fun u_6 t H1 locs ht hvm hr_5 hB hzz1 hkk1 hS => ?_)
    obtain ⟨a7, b7, v7, cap7, fa7, fb7, fv7⟩ := u_6
    obtain ⟨hP1, hK1, hD1⟩ := hB
    rw [ht] at hP1
    try dsimp only at hr_5
    obtain ⟨hP, hD⟩ := va_join (wr := [(y, .inr (3, [.ref r0, .ref r1, .ref r2, .ref r3, .ref r4, .ref r5, .ref wd, .ref tp, .int (nI wm), .int (nI tm)]))]) (w1 := [(r4, .inr (2, [.ref a7, .ref b7, .ref v7, .int (nI (n + 1))])), (a7, .inl (cI, cap7, .inl fa7)), (b7, .inl (cI, cap7, .inl fb7)), (v7, .inl (cJ, cap7, .inr (.inl fv7)))]) hP hD [1, 2, 3, 4] [0] rfl rfl (by decide) (by decide) hkk1 hFc hP1 hD1
    generalize H1 = H at hP hS ⊢
    have hP : va_P D vwCl [(y, .inr (3, [.ref r0, .ref r1, .ref r2, .ref r3, .ref r4, .ref r5, .ref wd, .ref tp, .int (nI wm), .int (nI tm)])), (r4, .inr (2, [.ref a7, .ref b7, .ref v7, .int (nI (n + 1))])), (a7, .inl (cI, cap7, .inl fa7)), (b7, .inl (cI, cap7, .inl fb7)), (v7, .inl (cJ, cap7, .inr (.inl fv7)))] H := hP.sub [0, 1, 2, 3, 4] rfl
    have hD : va_D A [(y, .inr (3, [.ref r0, .ref r1, .ref r2, .ref r3, .ref r4, .ref r5, .ref wd, .ref tp, .int (nI wm), .int (nI tm)])), (r4, .inr (2, [.ref a7, .ref b7, .ref v7, .int (nI (n + 1))])), (a7, .inl (cI, cap7, .inl fa7)), (b7, .inl (cI, cap7, .inl fb7)), (v7, .inl (cJ, cap7, .inr (.inl fv7)))] := hD.sub [0, 1, 2, 3, 4] (by decide) rfl
    obtain ⟨had, hca, hcb, hcc, hcd⟩ := hr_5
    refine lv_goto (tgt := 53) hx hb dX3_put_38 (by decide) ?_
    refine lv_lload hx hb dX3_put_53 (lv_at hl 0 rfl) ?_
    refine W.widen (k := 3) (n := 6600) (by omega) (by omega) ?_
    exact W.lret (v := NO) hx hb hr (fun t ht hW => ⟨⟨NO, (a7, b7, v7, cap7, n + 1, fa7, fb7, fv7), rfl, ⟨⟨hca, hcb, by omega⟩, Or.inr ⟨hnf, rfl, had⟩⟩, by rw [ht]; exact (hP.sub [0, 1, 2, 3, 4] rfl), va_K.moved hW.alike hK, (hD.sub [0, 1, 2, 3, 4] (by decide) rfl)⟩, hS.F ht⟩) hS.2.2 dX3_put_55

set_option maxHeartbeats 4000000 in
set_option maxRecDepth 100000 in
theorem c_X3_nearest (l : Launch) (D : va_G) (cI cJ : ClassId) (y r0 r1 r2 r3 r4 r5 wd tp wm tm : Nat) (a0 b0 v0 cap n : Nat) (fa fb : Nat → Int32) (fv : Nat → Int64) (hn : n ≤ cap) (hc : cap ≤ 1100) (h16 : 16 ≤ cap) (a b : Int32) (dn sm an : Nat) (hdn : dn ≤ 1) (hsm : sm ≤ 1) (han : an ≤ 1) : Met l yX3_nearest wsX3_nearest { frames := 1, cells := 0, slots := 0, locals := 23 } (va_Pc [.ref y, .int a, .int b, .int (nI dn), .int (nI sm), .int (nI an)] (rP D cI cJ [(y, .inr (3, [.ref r0, .ref r1, .ref r2, .ref r3, .ref r4, .ref r5, .ref wd, .ref tp, .int (nI wm), .int (nI tm)])), (r2, .inr (2, [.ref a0, .ref b0, .ref v0, .int (nI n)])), (a0, .inl (cI, cap, .inl fa)), (b0, .inl (cI, cap, .inl fb)), (v0, .inl (cJ, cap, .inr (.inl fv)))])) (vp_Si (fun r => ∃ o, r = oI o ∧ NsI (fun j => pk (fa j) (fb j)) (okN (pk a b) dn sm an) dn n o)) 0 0 (fun _ => False) := by
  refine Met.ofW (cc := cX3_nearest) (maxL := 9) (ret := (some .int)) (by decide) rfl ?_
  intro p e s m args below meth c s₁ B hml hv
  obtain ⟨rfl, hP, hK⟩ := hv
  have hx := B.exec
  have hb := B.bytes
  have hr := B.returns
  have hts := atoms_spec (ws := wsX3_nearest) B.pre
  have hown : s.vm.findClass RX3 = some m.cls := findClass_of_methodNamed B.named
  have hlocks := B.notSynchronized
  have lk0 := hts (.fieldLink RX3 19 "KeyHallModel" "rising" "LKeyHallModel$Rows;") (by decide +kernel)
  have lk1 : ∀ w ∈ wsX30, w ∈ wsX3_nearest := by decide +kernel
  have lk2 := hts (.fieldLink RX3 46 "KeyHallModel$Rows" "many" "I") (by decide +kernel)
  have lk3 : ∀ w ∈ wsX20, w ∈ wsX3_nearest := by decide +kernel
  have lk4 := hts (.fieldLink RX3 66 "KeyHallModel$Rows" "a" "[I") (by decide +kernel)
  have lk5 := hts (.fieldLink RX3 69 "KeyHallModel$Rows" "b" "[I") (by decide +kernel)
  have hl := lv_entry ([.ref y, .int a, .int b, .int (nI dn), .int (nI sm), .int (nI an)]) (n := 9) (Nat.le_of_ble_eq_true rfl)
  rw [lg_entry_eq]
  generalize (lg_sl ([.ref y, .int a, .int b, .int (nI dn), .int (nI sm), .int (nI an)]) ++ List.replicate (9 - (lg_sl ([.ref y, .int a, .int b, .int (nI dn), .int (nI sm), .int (nI an)])).length) Slot.unset).toArray = ls at hl ⊢
  have hl : lv_has ls 9 [(0, .ref y), (1, .int a), (2, .int b), (3, .int (nI dn)), (4, .int (nI sm)), (5, .int (nI an))] := hl
  refine lv_iconst (v := (-1)) hx hb dX3_nearest_0 (by decide) ?_
  refine lv_istore (lv' := [(6, .int (-1)), (0, .ref y), (1, .int a), (2, .int b), (3, .int (nI dn)), (4, .int (nI sm)), (5, .int (nI an))]) hx hb dX3_nearest_1 hl (by decide) rfl (fun ls hl => ?_)
  refine lv_iconst (v := nI 0) hx hb dX3_nearest_3 (by decide) ?_
  refine lv_istore (lv' := [(7, .int (nI 0)), (6, .int (-1)), (0, .ref y), (1, .int a), (2, .int b), (3, .int (nI dn)), (4, .int (nI sm)), (5, .int (nI an))]) hx hb dX3_nearest_4 hl (by decide) rfl (fun ls hl => ?_)
  refine z_loop (σ := Nat × Option Nat) (fun (i, o) => n - i) (fun (i, o) ls => lv_has ls 9 [(0, .ref y), (1, .int a), (2, .int b), (3, .int (nI dn)), (4, .int (nI sm)), (5, .int (nI an)), (6, .int (oI o)), (7, .int (nI i))] ∧ (i ≤ n) ∧ (NsI (fun j => pk (fa j) (fb j)) (okN (pk a b) dn sm an) dn i o)) ?_ ((0, none)) _ ⟨lv_sub hl [2, 3, 4, 5, 6, 7, 1, 0] rfl, Nat.zero_le _, fun j h => absurd h (Nat.not_lt_zero j)⟩
  rintro ⟨i, o⟩ ls ⟨hl, hi, hns⟩ ih
  have hl : lv_has ls 9 [(0, .ref y), (1, .int a), (2, .int b), (3, .int (nI dn)), (4, .int (nI sm)), (5, .int (nI an)), (6, .int (oI o)), (7, .int (nI i))] := hl
  refine lv_iload hx hb dX3_nearest_6 (lv_at hl 7 rfl) ?_
  refine lv_aload_n hx hb dX3_nearest_8 rfl (lv_at hl 0 rfl) ?_
  refine va_get (D := D) (ci := 3) (v := .ref r2) (C := RX3) (T := TX3) (N := 10) hx hb hts lk1 hown hK hP 0 rfl rfl 2 (by decide) lk0 (fun _ h9 => h9) rfl dX3_nearest_9 ?_
  refine va_get (D := D) (ci := 2) (v := .int (nI n)) (C := RX2) (T := TX2) (N := 4) hx hb hts lk3 hown hK hP 1 rfl rfl 3 (by decide) lk2 (fun _ h9 => h9) rfl dX3_nearest_12 ?_
  refine z_icmp_ge (tgt := 150) hx hb dX3_nearest_15 (by decide) (by omega) (by omega) (fun c_15 => ?_) (fun c_15 => ?_)
  · refine lv_iload hx hb dX3_nearest_150 (lv_at hl 6 rfl) ?_
    exact W.iret (v := oI o) hx hb hr (fun t ht hW => ⟨oI o, rfl, ⟨o, rfl, by rw [← Nat.le_antisymm hi c_15]; exact hns⟩, ht⟩) (fun _ h => nomatch h) dX3_nearest_152
  · refine lv_aload_n hx hb dX3_nearest_18 rfl (lv_at hl 0 rfl) ?_
    refine va_get (D := D) (ci := 3) (v := .ref r2) (C := RX3) (T := TX3) (N := 10) hx hb hts lk1 hown hK hP 0 rfl rfl 2 (by decide) lk0 (fun _ h9 => h9) rfl dX3_nearest_19 ?_
    refine va_get (D := D) (ci := 2) (v := .ref a0) (C := RX2) (T := TX2) (N := 4) hx hb hts lk3 hown hK hP 1 rfl rfl 0 (by decide) lk4 (fun _ h9 => h9) rfl dX3_nearest_22 ?_
    refine lv_iload hx hb dX3_nearest_25 (lv_at hl 7 rfl) ?_
    refine z_iald hx hb hK hP 2 rfl (j := i) (by omega) (by omega) dX3_nearest_27 ?_
    refine lv_aload_n hx hb dX3_nearest_28 rfl (lv_at hl 0 rfl) ?_
    refine va_get (D := D) (ci := 3) (v := .ref r2) (C := RX3) (T := TX3) (N := 10) hx hb hts lk1 hown hK hP 0 rfl rfl 2 (by decide) lk0 (fun _ h9 => h9) rfl dX3_nearest_29 ?_
    refine va_get (D := D) (ci := 2) (v := .ref b0) (C := RX2) (T := TX2) (N := 4) hx hb hts lk3 hown hK hP 1 rfl rfl 1 (by decide) lk5 (fun _ h9 => h9) rfl dX3_nearest_32 ?_
    refine lv_iload hx hb dX3_nearest_35 (lv_at hl 7 rfl) ?_
    refine z_iald hx hb hK hP 3 rfl (j := i) (by omega) (by omega) dX3_nearest_37 ?_
    refine lv_iload_n hx hb dX3_nearest_38 rfl (lv_at hl 1 rfl) ?_
    refine lv_iload_n hx hb dX3_nearest_39 rfl (lv_at hl 2 rfl) ?_
    refine vp_callSi (va_Run.run (va_runS (As := [.int (fa i), .int (fb i), .int a, .int b]) (rest := []) ⟨hx, hb, hml, hown, hts⟩ (c_X3_order l (fa i) (fb i) a b) (va_cwS 4 hts gX3_nearest_X3_order rfl rfl rfl (by decide +kernel) ⟨Nat.le_of_ble_eq_true rfl, Nat.le_of_ble_eq_true rfl⟩) z_preT rfl rfl hl.1 rfl (lv_room (Nat.le_of_ble_eq_true rfl)) dX3_nearest_40 ⟨Nat.zero_le _, Nat.zero_le _⟩)) (fun r_1 hr_1 => ?_)
    rcases hr_1 with ⟨ho1, rfl⟩ | ⟨ho1, rfl⟩ | ⟨ho1, rfl⟩
    · refine lv_istore (lv' := [(8, .int (-1)), (0, .ref y), (1, .int a), (2, .int b), (3, .int (nI dn)), (4, .int (nI sm)), (5, .int (nI an)), (6, .int (oI o)), (7, .int (nI i))]) hx hb dX3_nearest_43 hl (by decide) rfl (fun ls hl => ?_)
      refine lv_iload hx hb dX3_nearest_45 (lv_at hl 6 rfl) ?_
      refine z_if_ne (tgt := 80) hx hb dX3_nearest_47 (by decide) (by omega) (fun c_47 => ?_) (fun c_47 => ?_)
      · have hok : (okN (pk a b) dn sm an) (pk (fa i) (fb i)) := Or.inl (by omega)
        rcases o with _ | bst
        · have hl : lv_has ls 9 [(8, .int (-1)), (0, .ref y), (1, .int a), (2, .int b), (3, .int (nI dn)), (4, .int (nI sm)), (5, .int (nI an)), (6, .int (-1)), (7, .int (nI i))] := hl
          refine lv_iload hx hb dX3_nearest_80 (lv_at hl 7 rfl) ?_
          refine lv_if_lt (tgt := 140) hx hb dX3_nearest_82 (by decide) (fun _ => ?_) (fun q => absurd (by decide) q)
          refine lv_iload hx hb dX3_nearest_140 (lv_at hl 8 rfl) ?_
          refine lv_istore (lv' := [(6, .int (nI i)), (8, .int (-1)), (0, .ref y), (1, .int a), (2, .int b), (3, .int (nI dn)), (4, .int (nI sm)), (5, .int (nI an)), (7, .int (nI i))]) hx hb dX3_nearest_142 hl (by decide) rfl (fun ls hl => ?_)
          refine lv_iinc (v := nI (i + 1)) (lv' := [(7, .int (nI (i + 1))), (6, .int (nI i)), (8, .int (-1)), (0, .ref y), (1, .int a), (2, .int b), (3, .int (nI dn)), (4, .int (nI sm)), (5, .int (nI an))]) hx hb dX3_nearest_144 hl (k := 8) rfl (nI_add i 1) (by decide) rfl (fun ls hl => ?_)
          refine lv_goto (tgt := 6) hx hb dX3_nearest_147 (by decide) ?_
          exact ih ((i + 1, some i)) _ ⟨lv_sub hl [3, 4, 5, 6, 7, 8, 1, 0] rfl, by omega, hns.first hok⟩ (by first | omega | (dsimp only; omega))
        · have hl : lv_has ls 9 [(8, .int (-1)), (0, .ref y), (1, .int a), (2, .int b), (3, .int (nI dn)), (4, .int (nI sm)), (5, .int (nI an)), (6, .int (nI bst)), (7, .int (nI i))] := hl
          have hbl : bst < i := hns.1
          refine lv_iload hx hb dX3_nearest_80 (lv_at hl 7 rfl) ?_
          refine z_if_lt (tgt := 140) hx hb dX3_nearest_82 (by decide) (by omega) ?_
          refine lv_iload_n hx hb dX3_nearest_85 rfl (lv_at hl 4 rfl) ?_
          refine lv_aload_n hx hb dX3_nearest_86 rfl (lv_at hl 1 rfl) ?_
          refine va_get (D := D) (ci := 3) (v := .ref r2) (C := RX3) (T := TX3) (N := 10) hx hb hts lk1 hown hK hP 0 rfl rfl 2 (by decide) lk0 (fun _ h9 => h9) rfl dX3_nearest_87 ?_
          refine va_get (D := D) (ci := 2) (v := .ref a0) (C := RX2) (T := TX2) (N := 4) hx hb hts lk3 hown hK hP 1 rfl rfl 0 (by decide) lk4 (fun _ h9 => h9) rfl dX3_nearest_90 ?_
          refine lv_iload hx hb dX3_nearest_93 (lv_at hl 8 rfl) ?_
          refine z_iald hx hb hK hP 2 rfl (j := i) (by omega) (by omega) dX3_nearest_95 ?_
          refine lv_aload_n hx hb dX3_nearest_96 rfl (lv_at hl 1 rfl) ?_
          refine va_get (D := D) (ci := 3) (v := .ref r2) (C := RX3) (T := TX3) (N := 10) hx hb hts lk1 hown hK hP 0 rfl rfl 2 (by decide) lk0 (fun _ h9 => h9) rfl dX3_nearest_97 ?_
          refine va_get (D := D) (ci := 2) (v := .ref b0) (C := RX2) (T := TX2) (N := 4) hx hb hts lk3 hown hK hP 1 rfl rfl 1 (by decide) lk5 (fun _ h9 => h9) rfl dX3_nearest_100 ?_
          refine lv_iload hx hb dX3_nearest_103 (lv_at hl 8 rfl) ?_
          refine z_iald hx hb hK hP 3 rfl (j := i) (by omega) (by omega) dX3_nearest_105 ?_
          refine lv_aload_n hx hb dX3_nearest_106 rfl (lv_at hl 1 rfl) ?_
          refine va_get (D := D) (ci := 3) (v := .ref r2) (C := RX3) (T := TX3) (N := 10) hx hb hts lk1 hown hK hP 0 rfl rfl 2 (by decide) lk0 (fun _ h9 => h9) rfl dX3_nearest_107 ?_
          refine va_get (D := D) (ci := 2) (v := .ref a0) (C := RX2) (T := TX2) (N := 4) hx hb hts lk3 hown hK hP 1 rfl rfl 0 (by decide) lk4 (fun _ h9 => h9) rfl dX3_nearest_110 ?_
          refine lv_iload hx hb dX3_nearest_113 (lv_at hl 7 rfl) ?_
          refine z_iald hx hb hK hP 2 rfl (j := bst) (by omega) (by omega) dX3_nearest_115 ?_
          refine lv_aload_n hx hb dX3_nearest_116 rfl (lv_at hl 1 rfl) ?_
          refine va_get (D := D) (ci := 3) (v := .ref r2) (C := RX3) (T := TX3) (N := 10) hx hb hts lk1 hown hK hP 0 rfl rfl 2 (by decide) lk0 (fun _ h9 => h9) rfl dX3_nearest_117 ?_
          refine va_get (D := D) (ci := 2) (v := .ref b0) (C := RX2) (T := TX2) (N := 4) hx hb hts lk3 hown hK hP 1 rfl rfl 1 (by decide) lk5 (fun _ h9 => h9) rfl dX3_nearest_120 ?_
          refine lv_iload hx hb dX3_nearest_123 (lv_at hl 7 rfl) ?_
          refine z_iald hx hb hK hP 3 rfl (j := bst) (by omega) (by omega) dX3_nearest_125 ?_
          refine vp_callSi (va_Run.run (va_runS (As := [.int (fa i), .int (fb i), .int (fa bst), .int (fb bst)]) (rest := [.int (nI dn)]) ⟨hx, hb, hml, hown, hts⟩ (c_X3_order l (fa i) (fb i) (fa bst) (fb bst)) (va_cwS 4 hts gX3_nearest_X3_order rfl rfl rfl (by decide +kernel) ⟨Nat.le_of_ble_eq_true rfl, Nat.le_of_ble_eq_true rfl⟩) z_preT rfl rfl hl.1 rfl (lv_room (Nat.le_of_ble_eq_true rfl)) dX3_nearest_126 ⟨Nat.zero_le _, Nat.zero_le _⟩)) (fun r_2 hr_2 => ?_)
          rcases hr_2 with ⟨ho2, rfl⟩ | ⟨ho2, rfl⟩ | ⟨ho2, rfl⟩
          · refine lv_if_le (tgt := 136) hx hb dX3_nearest_129 (by decide) (fun _ => ?_) (fun q => absurd (by decide) q)
            refine lv_iconst (v := nI 0) hx hb dX3_nearest_136 (by decide) ?_
            refine z_icmp_ne (tgt := 144) hx hb dX3_nearest_137 (by decide) (by omega) (by omega) (fun c_137 => ?_) (fun c_137 => ?_)
            · refine lv_iinc (v := nI (i + 1)) (lv' := [(7, .int (nI (i + 1))), (8, .int (-1)), (0, .ref y), (1, .int a), (2, .int b), (3, .int (nI dn)), (4, .int (nI sm)), (5, .int (nI an)), (6, .int (nI bst))]) hx hb dX3_nearest_144 hl (k := 8) rfl (nI_add i 1) (by decide) rfl (fun ls hl => ?_)
              refine lv_goto (tgt := 6) hx hb dX3_nearest_147 (by decide) ?_
              exact ih ((i + 1, some bst)) _ ⟨lv_sub hl [2, 3, 4, 5, 6, 7, 8, 0] rfl, by omega, hns.stay (Or.inl ⟨by omega, Int64.le_of_lt ho2⟩)⟩ (by first | omega | (dsimp only; omega))
            · refine lv_iload hx hb dX3_nearest_140 (lv_at hl 8 rfl) ?_
              refine lv_istore (lv' := [(6, .int (nI i)), (8, .int (-1)), (0, .ref y), (1, .int a), (2, .int b), (3, .int (nI dn)), (4, .int (nI sm)), (5, .int (nI an)), (7, .int (nI i))]) hx hb dX3_nearest_142 hl (by decide) rfl (fun ls hl => ?_)
              refine lv_iinc (v := nI (i + 1)) (lv' := [(7, .int (nI (i + 1))), (6, .int (nI i)), (8, .int (-1)), (0, .ref y), (1, .int a), (2, .int b), (3, .int (nI dn)), (4, .int (nI sm)), (5, .int (nI an))]) hx hb dX3_nearest_144 hl (k := 8) rfl (nI_add i 1) (by decide) rfl (fun ls hl => ?_)
              refine lv_goto (tgt := 6) hx hb dX3_nearest_147 (by decide) ?_
              exact ih ((i + 1, some i)) _ ⟨lv_sub hl [3, 4, 5, 6, 7, 8, 1, 0] rfl, by omega, hns.take hok (Or.inr ⟨by omega, Int64.le_of_lt ho2⟩)⟩ (by first | omega | (dsimp only; omega))
          · refine lv_if_le (tgt := 136) hx hb dX3_nearest_129 (by decide) (fun q => absurd q (by decide)) (fun _ => ?_)
            refine lv_iconst (v := nI 1) hx hb dX3_nearest_132 (by decide) ?_
            refine lv_goto (tgt := 137) hx hb dX3_nearest_133 (by decide) ?_
            refine z_icmp_ne (tgt := 144) hx hb dX3_nearest_137 (by decide) (by omega) (by omega) (fun c_137 => ?_) (fun c_137 => ?_)
            · refine lv_iinc (v := nI (i + 1)) (lv' := [(7, .int (nI (i + 1))), (8, .int (-1)), (0, .ref y), (1, .int a), (2, .int b), (3, .int (nI dn)), (4, .int (nI sm)), (5, .int (nI an)), (6, .int (nI bst))]) hx hb dX3_nearest_144 hl (k := 8) rfl (nI_add i 1) (by decide) rfl (fun ls hl => ?_)
              refine lv_goto (tgt := 6) hx hb dX3_nearest_147 (by decide) ?_
              exact ih ((i + 1, some bst)) _ ⟨lv_sub hl [2, 3, 4, 5, 6, 7, 8, 0] rfl, by omega, hns.stay (Or.inr ⟨by omega, Int64.le_of_lt ho2⟩)⟩ (by first | omega | (dsimp only; omega))
            · refine lv_iload hx hb dX3_nearest_140 (lv_at hl 8 rfl) ?_
              refine lv_istore (lv' := [(6, .int (nI i)), (8, .int (-1)), (0, .ref y), (1, .int a), (2, .int b), (3, .int (nI dn)), (4, .int (nI sm)), (5, .int (nI an)), (7, .int (nI i))]) hx hb dX3_nearest_142 hl (by decide) rfl (fun ls hl => ?_)
              refine lv_iinc (v := nI (i + 1)) (lv' := [(7, .int (nI (i + 1))), (6, .int (nI i)), (8, .int (-1)), (0, .ref y), (1, .int a), (2, .int b), (3, .int (nI dn)), (4, .int (nI sm)), (5, .int (nI an))]) hx hb dX3_nearest_144 hl (k := 8) rfl (nI_add i 1) (by decide) rfl (fun ls hl => ?_)
              refine lv_goto (tgt := 6) hx hb dX3_nearest_147 (by decide) ?_
              exact ih ((i + 1, some i)) _ ⟨lv_sub hl [3, 4, 5, 6, 7, 8, 1, 0] rfl, by omega, hns.take hok (Or.inl ⟨by omega, Int64.le_of_lt ho2⟩)⟩ (by first | omega | (dsimp only; omega))
          · refine lv_if_le (tgt := 136) hx hb dX3_nearest_129 (by decide) (fun _ => ?_) (fun q => absurd (by decide) q)
            refine lv_iconst (v := nI 0) hx hb dX3_nearest_136 (by decide) ?_
            refine z_icmp_ne (tgt := 144) hx hb dX3_nearest_137 (by decide) (by omega) (by omega) (fun c_137 => ?_) (fun c_137 => ?_)
            · refine lv_iinc (v := nI (i + 1)) (lv' := [(7, .int (nI (i + 1))), (8, .int (-1)), (0, .ref y), (1, .int a), (2, .int b), (3, .int (nI dn)), (4, .int (nI sm)), (5, .int (nI an)), (6, .int (nI bst))]) hx hb dX3_nearest_144 hl (k := 8) rfl (nI_add i 1) (by decide) rfl (fun ls hl => ?_)
              refine lv_goto (tgt := 6) hx hb dX3_nearest_147 (by decide) ?_
              exact ih ((i + 1, some bst)) _ ⟨lv_sub hl [2, 3, 4, 5, 6, 7, 8, 0] rfl, by omega, hns.stay (Or.inl ⟨by omega, by rw [ho2]; exact Int64.le_refl _⟩)⟩ (by first | omega | (dsimp only; omega))
            · refine lv_iload hx hb dX3_nearest_140 (lv_at hl 8 rfl) ?_
              refine lv_istore (lv' := [(6, .int (nI i)), (8, .int (-1)), (0, .ref y), (1, .int a), (2, .int b), (3, .int (nI dn)), (4, .int (nI sm)), (5, .int (nI an)), (7, .int (nI i))]) hx hb dX3_nearest_142 hl (by decide) rfl (fun ls hl => ?_)
              refine lv_iinc (v := nI (i + 1)) (lv' := [(7, .int (nI (i + 1))), (6, .int (nI i)), (8, .int (-1)), (0, .ref y), (1, .int a), (2, .int b), (3, .int (nI dn)), (4, .int (nI sm)), (5, .int (nI an))]) hx hb dX3_nearest_144 hl (k := 8) rfl (nI_add i 1) (by decide) rfl (fun ls hl => ?_)
              refine lv_goto (tgt := 6) hx hb dX3_nearest_147 (by decide) ?_
              exact ih ((i + 1, some i)) _ ⟨lv_sub hl [3, 4, 5, 6, 7, 8, 1, 0] rfl, by omega, hns.take hok (Or.inr ⟨by omega, by rw [ho2]; exact Int64.le_refl _⟩)⟩ (by first | omega | (dsimp only; omega))
      · refine lv_iload hx hb dX3_nearest_50 (lv_at hl 0 rfl) ?_
        refine lv_if_ne (tgt := 63) hx hb dX3_nearest_52 (by decide) (fun _ => ?_) (fun q => absurd q (by decide))
        refine lv_iload_n hx hb dX3_nearest_63 rfl (lv_at hl 4 rfl) ?_
        refine lv_iload hx hb dX3_nearest_64 (lv_at hl 0 rfl) ?_
        refine lv_if_ge (tgt := 73) hx hb dX3_nearest_66 (by decide) (fun q => absurd q (by decide)) (fun _ => ?_)
        refine lv_iconst (v := nI 1) hx hb dX3_nearest_69 (by decide) ?_
        refine lv_goto (tgt := 74) hx hb dX3_nearest_70 (by decide) ?_
        refine z_icmp_eq (tgt := 80) hx hb dX3_nearest_74 (by decide) (by omega) (by omega) (fun c_74 => ?_) (fun c_74 => ?_)
        · have hok : (okN (pk a b) dn sm an) (pk (fa i) (fb i)) := Or.inr (Or.inr (Or.inl ⟨by omega, ho1⟩))
          rcases o with _ | bst
          · have hl : lv_has ls 9 [(8, .int (-1)), (0, .ref y), (1, .int a), (2, .int b), (3, .int (nI dn)), (4, .int (nI sm)), (5, .int (nI an)), (6, .int (-1)), (7, .int (nI i))] := hl
            refine lv_iload hx hb dX3_nearest_80 (lv_at hl 7 rfl) ?_
            refine lv_if_lt (tgt := 140) hx hb dX3_nearest_82 (by decide) (fun _ => ?_) (fun q => absurd (by decide) q)
            refine lv_iload hx hb dX3_nearest_140 (lv_at hl 8 rfl) ?_
            refine lv_istore (lv' := [(6, .int (nI i)), (8, .int (-1)), (0, .ref y), (1, .int a), (2, .int b), (3, .int (nI dn)), (4, .int (nI sm)), (5, .int (nI an)), (7, .int (nI i))]) hx hb dX3_nearest_142 hl (by decide) rfl (fun ls hl => ?_)
            refine lv_iinc (v := nI (i + 1)) (lv' := [(7, .int (nI (i + 1))), (6, .int (nI i)), (8, .int (-1)), (0, .ref y), (1, .int a), (2, .int b), (3, .int (nI dn)), (4, .int (nI sm)), (5, .int (nI an))]) hx hb dX3_nearest_144 hl (k := 8) rfl (nI_add i 1) (by decide) rfl (fun ls hl => ?_)
            refine lv_goto (tgt := 6) hx hb dX3_nearest_147 (by decide) ?_
            exact ih ((i + 1, some i)) _ ⟨lv_sub hl [3, 4, 5, 6, 7, 8, 1, 0] rfl, by omega, hns.first hok⟩ (by first | omega | (dsimp only; omega))
          · have hl : lv_has ls 9 [(8, .int (-1)), (0, .ref y), (1, .int a), (2, .int b), (3, .int (nI dn)), (4, .int (nI sm)), (5, .int (nI an)), (6, .int (nI bst)), (7, .int (nI i))] := hl
            have hbl : bst < i := hns.1
            refine lv_iload hx hb dX3_nearest_80 (lv_at hl 7 rfl) ?_
            refine z_if_lt (tgt := 140) hx hb dX3_nearest_82 (by decide) (by omega) ?_
            refine lv_iload_n hx hb dX3_nearest_85 rfl (lv_at hl 4 rfl) ?_
            refine lv_aload_n hx hb dX3_nearest_86 rfl (lv_at hl 1 rfl) ?_
            refine va_get (D := D) (ci := 3) (v := .ref r2) (C := RX3) (T := TX3) (N := 10) hx hb hts lk1 hown hK hP 0 rfl rfl 2 (by decide) lk0 (fun _ h9 => h9) rfl dX3_nearest_87 ?_
            refine va_get (D := D) (ci := 2) (v := .ref a0) (C := RX2) (T := TX2) (N := 4) hx hb hts lk3 hown hK hP 1 rfl rfl 0 (by decide) lk4 (fun _ h9 => h9) rfl dX3_nearest_90 ?_
            refine lv_iload hx hb dX3_nearest_93 (lv_at hl 8 rfl) ?_
            refine z_iald hx hb hK hP 2 rfl (j := i) (by omega) (by omega) dX3_nearest_95 ?_
            refine lv_aload_n hx hb dX3_nearest_96 rfl (lv_at hl 1 rfl) ?_
            refine va_get (D := D) (ci := 3) (v := .ref r2) (C := RX3) (T := TX3) (N := 10) hx hb hts lk1 hown hK hP 0 rfl rfl 2 (by decide) lk0 (fun _ h9 => h9) rfl dX3_nearest_97 ?_
            refine va_get (D := D) (ci := 2) (v := .ref b0) (C := RX2) (T := TX2) (N := 4) hx hb hts lk3 hown hK hP 1 rfl rfl 1 (by decide) lk5 (fun _ h9 => h9) rfl dX3_nearest_100 ?_
            refine lv_iload hx hb dX3_nearest_103 (lv_at hl 8 rfl) ?_
            refine z_iald hx hb hK hP 3 rfl (j := i) (by omega) (by omega) dX3_nearest_105 ?_
            refine lv_aload_n hx hb dX3_nearest_106 rfl (lv_at hl 1 rfl) ?_
            refine va_get (D := D) (ci := 3) (v := .ref r2) (C := RX3) (T := TX3) (N := 10) hx hb hts lk1 hown hK hP 0 rfl rfl 2 (by decide) lk0 (fun _ h9 => h9) rfl dX3_nearest_107 ?_
            refine va_get (D := D) (ci := 2) (v := .ref a0) (C := RX2) (T := TX2) (N := 4) hx hb hts lk3 hown hK hP 1 rfl rfl 0 (by decide) lk4 (fun _ h9 => h9) rfl dX3_nearest_110 ?_
            refine lv_iload hx hb dX3_nearest_113 (lv_at hl 7 rfl) ?_
            refine z_iald hx hb hK hP 2 rfl (j := bst) (by omega) (by omega) dX3_nearest_115 ?_
            refine lv_aload_n hx hb dX3_nearest_116 rfl (lv_at hl 1 rfl) ?_
            refine va_get (D := D) (ci := 3) (v := .ref r2) (C := RX3) (T := TX3) (N := 10) hx hb hts lk1 hown hK hP 0 rfl rfl 2 (by decide) lk0 (fun _ h9 => h9) rfl dX3_nearest_117 ?_
            refine va_get (D := D) (ci := 2) (v := .ref b0) (C := RX2) (T := TX2) (N := 4) hx hb hts lk3 hown hK hP 1 rfl rfl 1 (by decide) lk5 (fun _ h9 => h9) rfl dX3_nearest_120 ?_
            refine lv_iload hx hb dX3_nearest_123 (lv_at hl 7 rfl) ?_
            refine z_iald hx hb hK hP 3 rfl (j := bst) (by omega) (by omega) dX3_nearest_125 ?_
            refine vp_callSi (va_Run.run (va_runS (As := [.int (fa i), .int (fb i), .int (fa bst), .int (fb bst)]) (rest := [.int (nI dn)]) ⟨hx, hb, hml, hown, hts⟩ (c_X3_order l (fa i) (fb i) (fa bst) (fb bst)) (va_cwS 4 hts gX3_nearest_X3_order rfl rfl rfl (by decide +kernel) ⟨Nat.le_of_ble_eq_true rfl, Nat.le_of_ble_eq_true rfl⟩) z_preT rfl rfl hl.1 rfl (lv_room (Nat.le_of_ble_eq_true rfl)) dX3_nearest_126 ⟨Nat.zero_le _, Nat.zero_le _⟩)) (fun r_3 hr_3 => ?_)
            rcases hr_3 with ⟨ho2, rfl⟩ | ⟨ho2, rfl⟩ | ⟨ho2, rfl⟩
            · refine lv_if_le (tgt := 136) hx hb dX3_nearest_129 (by decide) (fun _ => ?_) (fun q => absurd (by decide) q)
              refine lv_iconst (v := nI 0) hx hb dX3_nearest_136 (by decide) ?_
              refine z_icmp_ne (tgt := 144) hx hb dX3_nearest_137 (by decide) (by omega) (by omega) (fun c_137 => ?_) (fun c_137 => ?_)
              · refine lv_iinc (v := nI (i + 1)) (lv' := [(7, .int (nI (i + 1))), (8, .int (-1)), (0, .ref y), (1, .int a), (2, .int b), (3, .int (nI dn)), (4, .int (nI sm)), (5, .int (nI an)), (6, .int (nI bst))]) hx hb dX3_nearest_144 hl (k := 8) rfl (nI_add i 1) (by decide) rfl (fun ls hl => ?_)
                refine lv_goto (tgt := 6) hx hb dX3_nearest_147 (by decide) ?_
                exact ih ((i + 1, some bst)) _ ⟨lv_sub hl [2, 3, 4, 5, 6, 7, 8, 0] rfl, by omega, hns.stay (Or.inl ⟨by omega, Int64.le_of_lt ho2⟩)⟩ (by first | omega | (dsimp only; omega))
              · refine lv_iload hx hb dX3_nearest_140 (lv_at hl 8 rfl) ?_
                refine lv_istore (lv' := [(6, .int (nI i)), (8, .int (-1)), (0, .ref y), (1, .int a), (2, .int b), (3, .int (nI dn)), (4, .int (nI sm)), (5, .int (nI an)), (7, .int (nI i))]) hx hb dX3_nearest_142 hl (by decide) rfl (fun ls hl => ?_)
                refine lv_iinc (v := nI (i + 1)) (lv' := [(7, .int (nI (i + 1))), (6, .int (nI i)), (8, .int (-1)), (0, .ref y), (1, .int a), (2, .int b), (3, .int (nI dn)), (4, .int (nI sm)), (5, .int (nI an))]) hx hb dX3_nearest_144 hl (k := 8) rfl (nI_add i 1) (by decide) rfl (fun ls hl => ?_)
                refine lv_goto (tgt := 6) hx hb dX3_nearest_147 (by decide) ?_
                exact ih ((i + 1, some i)) _ ⟨lv_sub hl [3, 4, 5, 6, 7, 8, 1, 0] rfl, by omega, hns.take hok (Or.inr ⟨by omega, Int64.le_of_lt ho2⟩)⟩ (by first | omega | (dsimp only; omega))
            · refine lv_if_le (tgt := 136) hx hb dX3_nearest_129 (by decide) (fun q => absurd q (by decide)) (fun _ => ?_)
              refine lv_iconst (v := nI 1) hx hb dX3_nearest_132 (by decide) ?_
              refine lv_goto (tgt := 137) hx hb dX3_nearest_133 (by decide) ?_
              refine z_icmp_ne (tgt := 144) hx hb dX3_nearest_137 (by decide) (by omega) (by omega) (fun c_137 => ?_) (fun c_137 => ?_)
              · refine lv_iinc (v := nI (i + 1)) (lv' := [(7, .int (nI (i + 1))), (8, .int (-1)), (0, .ref y), (1, .int a), (2, .int b), (3, .int (nI dn)), (4, .int (nI sm)), (5, .int (nI an)), (6, .int (nI bst))]) hx hb dX3_nearest_144 hl (k := 8) rfl (nI_add i 1) (by decide) rfl (fun ls hl => ?_)
                refine lv_goto (tgt := 6) hx hb dX3_nearest_147 (by decide) ?_
                exact ih ((i + 1, some bst)) _ ⟨lv_sub hl [2, 3, 4, 5, 6, 7, 8, 0] rfl, by omega, hns.stay (Or.inr ⟨by omega, Int64.le_of_lt ho2⟩)⟩ (by first | omega | (dsimp only; omega))
              · refine lv_iload hx hb dX3_nearest_140 (lv_at hl 8 rfl) ?_
                refine lv_istore (lv' := [(6, .int (nI i)), (8, .int (-1)), (0, .ref y), (1, .int a), (2, .int b), (3, .int (nI dn)), (4, .int (nI sm)), (5, .int (nI an)), (7, .int (nI i))]) hx hb dX3_nearest_142 hl (by decide) rfl (fun ls hl => ?_)
                refine lv_iinc (v := nI (i + 1)) (lv' := [(7, .int (nI (i + 1))), (6, .int (nI i)), (8, .int (-1)), (0, .ref y), (1, .int a), (2, .int b), (3, .int (nI dn)), (4, .int (nI sm)), (5, .int (nI an))]) hx hb dX3_nearest_144 hl (k := 8) rfl (nI_add i 1) (by decide) rfl (fun ls hl => ?_)
                refine lv_goto (tgt := 6) hx hb dX3_nearest_147 (by decide) ?_
                exact ih ((i + 1, some i)) _ ⟨lv_sub hl [3, 4, 5, 6, 7, 8, 1, 0] rfl, by omega, hns.take hok (Or.inl ⟨by omega, Int64.le_of_lt ho2⟩)⟩ (by first | omega | (dsimp only; omega))
            · refine lv_if_le (tgt := 136) hx hb dX3_nearest_129 (by decide) (fun _ => ?_) (fun q => absurd (by decide) q)
              refine lv_iconst (v := nI 0) hx hb dX3_nearest_136 (by decide) ?_
              refine z_icmp_ne (tgt := 144) hx hb dX3_nearest_137 (by decide) (by omega) (by omega) (fun c_137 => ?_) (fun c_137 => ?_)
              · refine lv_iinc (v := nI (i + 1)) (lv' := [(7, .int (nI (i + 1))), (8, .int (-1)), (0, .ref y), (1, .int a), (2, .int b), (3, .int (nI dn)), (4, .int (nI sm)), (5, .int (nI an)), (6, .int (nI bst))]) hx hb dX3_nearest_144 hl (k := 8) rfl (nI_add i 1) (by decide) rfl (fun ls hl => ?_)
                refine lv_goto (tgt := 6) hx hb dX3_nearest_147 (by decide) ?_
                exact ih ((i + 1, some bst)) _ ⟨lv_sub hl [2, 3, 4, 5, 6, 7, 8, 0] rfl, by omega, hns.stay (Or.inl ⟨by omega, by rw [ho2]; exact Int64.le_refl _⟩)⟩ (by first | omega | (dsimp only; omega))
              · refine lv_iload hx hb dX3_nearest_140 (lv_at hl 8 rfl) ?_
                refine lv_istore (lv' := [(6, .int (nI i)), (8, .int (-1)), (0, .ref y), (1, .int a), (2, .int b), (3, .int (nI dn)), (4, .int (nI sm)), (5, .int (nI an)), (7, .int (nI i))]) hx hb dX3_nearest_142 hl (by decide) rfl (fun ls hl => ?_)
                refine lv_iinc (v := nI (i + 1)) (lv' := [(7, .int (nI (i + 1))), (6, .int (nI i)), (8, .int (-1)), (0, .ref y), (1, .int a), (2, .int b), (3, .int (nI dn)), (4, .int (nI sm)), (5, .int (nI an))]) hx hb dX3_nearest_144 hl (k := 8) rfl (nI_add i 1) (by decide) rfl (fun ls hl => ?_)
                refine lv_goto (tgt := 6) hx hb dX3_nearest_147 (by decide) ?_
                exact ih ((i + 1, some i)) _ ⟨lv_sub hl [3, 4, 5, 6, 7, 8, 1, 0] rfl, by omega, hns.take hok (Or.inr ⟨by omega, by rw [ho2]; exact Int64.le_refl _⟩)⟩ (by first | omega | (dsimp only; omega))
        · refine lv_goto (tgt := 144) hx hb dX3_nearest_77 (by decide) ?_
          refine lv_iinc (v := nI (i + 1)) (lv' := [(7, .int (nI (i + 1))), (8, .int (-1)), (0, .ref y), (1, .int a), (2, .int b), (3, .int (nI dn)), (4, .int (nI sm)), (5, .int (nI an)), (6, .int (oI o))]) hx hb dX3_nearest_144 hl (k := 8) rfl (nI_add i 1) (by decide) rfl (fun ls hl => ?_)
          refine lv_goto (tgt := 6) hx hb dX3_nearest_147 (by decide) ?_
          exact ih ((i + 1, o)) _ ⟨lv_sub hl [2, 3, 4, 5, 6, 7, 8, 0] rfl, by omega, hns.skip (fun q => q.elim (fun z => absurd c_47 (by omega)) (fun z => z.elim (fun y => absurd ho1 (by rw [y.1]; exact Int64.lt_irrefl)) (fun y => y.elim (fun x => absurd x.1 (by omega)) (fun x => absurd x.2 (Int64.lt_asymm ho1)))))⟩ (by first | omega | (dsimp only; omega))
    · refine lv_istore (lv' := [(8, .int (nI 1)), (0, .ref y), (1, .int a), (2, .int b), (3, .int (nI dn)), (4, .int (nI sm)), (5, .int (nI an)), (6, .int (oI o)), (7, .int (nI i))]) hx hb dX3_nearest_43 hl (by decide) rfl (fun ls hl => ?_)
      refine lv_iload hx hb dX3_nearest_45 (lv_at hl 6 rfl) ?_
      refine z_if_ne (tgt := 80) hx hb dX3_nearest_47 (by decide) (by omega) (fun c_47 => ?_) (fun c_47 => ?_)
      · have hok : (okN (pk a b) dn sm an) (pk (fa i) (fb i)) := Or.inl (by omega)
        rcases o with _ | bst
        · have hl : lv_has ls 9 [(8, .int (nI 1)), (0, .ref y), (1, .int a), (2, .int b), (3, .int (nI dn)), (4, .int (nI sm)), (5, .int (nI an)), (6, .int (-1)), (7, .int (nI i))] := hl
          refine lv_iload hx hb dX3_nearest_80 (lv_at hl 7 rfl) ?_
          refine lv_if_lt (tgt := 140) hx hb dX3_nearest_82 (by decide) (fun _ => ?_) (fun q => absurd (by decide) q)
          refine lv_iload hx hb dX3_nearest_140 (lv_at hl 8 rfl) ?_
          refine lv_istore (lv' := [(6, .int (nI i)), (8, .int (nI 1)), (0, .ref y), (1, .int a), (2, .int b), (3, .int (nI dn)), (4, .int (nI sm)), (5, .int (nI an)), (7, .int (nI i))]) hx hb dX3_nearest_142 hl (by decide) rfl (fun ls hl => ?_)
          refine lv_iinc (v := nI (i + 1)) (lv' := [(7, .int (nI (i + 1))), (6, .int (nI i)), (8, .int (nI 1)), (0, .ref y), (1, .int a), (2, .int b), (3, .int (nI dn)), (4, .int (nI sm)), (5, .int (nI an))]) hx hb dX3_nearest_144 hl (k := 8) rfl (nI_add i 1) (by decide) rfl (fun ls hl => ?_)
          refine lv_goto (tgt := 6) hx hb dX3_nearest_147 (by decide) ?_
          exact ih ((i + 1, some i)) _ ⟨lv_sub hl [3, 4, 5, 6, 7, 8, 1, 0] rfl, by omega, hns.first hok⟩ (by first | omega | (dsimp only; omega))
        · have hl : lv_has ls 9 [(8, .int (nI 1)), (0, .ref y), (1, .int a), (2, .int b), (3, .int (nI dn)), (4, .int (nI sm)), (5, .int (nI an)), (6, .int (nI bst)), (7, .int (nI i))] := hl
          have hbl : bst < i := hns.1
          refine lv_iload hx hb dX3_nearest_80 (lv_at hl 7 rfl) ?_
          refine z_if_lt (tgt := 140) hx hb dX3_nearest_82 (by decide) (by omega) ?_
          refine lv_iload_n hx hb dX3_nearest_85 rfl (lv_at hl 4 rfl) ?_
          refine lv_aload_n hx hb dX3_nearest_86 rfl (lv_at hl 1 rfl) ?_
          refine va_get (D := D) (ci := 3) (v := .ref r2) (C := RX3) (T := TX3) (N := 10) hx hb hts lk1 hown hK hP 0 rfl rfl 2 (by decide) lk0 (fun _ h9 => h9) rfl dX3_nearest_87 ?_
          refine va_get (D := D) (ci := 2) (v := .ref a0) (C := RX2) (T := TX2) (N := 4) hx hb hts lk3 hown hK hP 1 rfl rfl 0 (by decide) lk4 (fun _ h9 => h9) rfl dX3_nearest_90 ?_
          refine lv_iload hx hb dX3_nearest_93 (lv_at hl 8 rfl) ?_
          refine z_iald hx hb hK hP 2 rfl (j := i) (by omega) (by omega) dX3_nearest_95 ?_
          refine lv_aload_n hx hb dX3_nearest_96 rfl (lv_at hl 1 rfl) ?_
          refine va_get (D := D) (ci := 3) (v := .ref r2) (C := RX3) (T := TX3) (N := 10) hx hb hts lk1 hown hK hP 0 rfl rfl 2 (by decide) lk0 (fun _ h9 => h9) rfl dX3_nearest_97 ?_
          refine va_get (D := D) (ci := 2) (v := .ref b0) (C := RX2) (T := TX2) (N := 4) hx hb hts lk3 hown hK hP 1 rfl rfl 1 (by decide) lk5 (fun _ h9 => h9) rfl dX3_nearest_100 ?_
          refine lv_iload hx hb dX3_nearest_103 (lv_at hl 8 rfl) ?_
          refine z_iald hx hb hK hP 3 rfl (j := i) (by omega) (by omega) dX3_nearest_105 ?_
          refine lv_aload_n hx hb dX3_nearest_106 rfl (lv_at hl 1 rfl) ?_
          refine va_get (D := D) (ci := 3) (v := .ref r2) (C := RX3) (T := TX3) (N := 10) hx hb hts lk1 hown hK hP 0 rfl rfl 2 (by decide) lk0 (fun _ h9 => h9) rfl dX3_nearest_107 ?_
          refine va_get (D := D) (ci := 2) (v := .ref a0) (C := RX2) (T := TX2) (N := 4) hx hb hts lk3 hown hK hP 1 rfl rfl 0 (by decide) lk4 (fun _ h9 => h9) rfl dX3_nearest_110 ?_
          refine lv_iload hx hb dX3_nearest_113 (lv_at hl 7 rfl) ?_
          refine z_iald hx hb hK hP 2 rfl (j := bst) (by omega) (by omega) dX3_nearest_115 ?_
          refine lv_aload_n hx hb dX3_nearest_116 rfl (lv_at hl 1 rfl) ?_
          refine va_get (D := D) (ci := 3) (v := .ref r2) (C := RX3) (T := TX3) (N := 10) hx hb hts lk1 hown hK hP 0 rfl rfl 2 (by decide) lk0 (fun _ h9 => h9) rfl dX3_nearest_117 ?_
          refine va_get (D := D) (ci := 2) (v := .ref b0) (C := RX2) (T := TX2) (N := 4) hx hb hts lk3 hown hK hP 1 rfl rfl 1 (by decide) lk5 (fun _ h9 => h9) rfl dX3_nearest_120 ?_
          refine lv_iload hx hb dX3_nearest_123 (lv_at hl 7 rfl) ?_
          refine z_iald hx hb hK hP 3 rfl (j := bst) (by omega) (by omega) dX3_nearest_125 ?_
          refine vp_callSi (va_Run.run (va_runS (As := [.int (fa i), .int (fb i), .int (fa bst), .int (fb bst)]) (rest := [.int (nI dn)]) ⟨hx, hb, hml, hown, hts⟩ (c_X3_order l (fa i) (fb i) (fa bst) (fb bst)) (va_cwS 4 hts gX3_nearest_X3_order rfl rfl rfl (by decide +kernel) ⟨Nat.le_of_ble_eq_true rfl, Nat.le_of_ble_eq_true rfl⟩) z_preT rfl rfl hl.1 rfl (lv_room (Nat.le_of_ble_eq_true rfl)) dX3_nearest_126 ⟨Nat.zero_le _, Nat.zero_le _⟩)) (fun r_4 hr_4 => ?_)
          rcases hr_4 with ⟨ho2, rfl⟩ | ⟨ho2, rfl⟩ | ⟨ho2, rfl⟩
          · refine lv_if_le (tgt := 136) hx hb dX3_nearest_129 (by decide) (fun _ => ?_) (fun q => absurd (by decide) q)
            refine lv_iconst (v := nI 0) hx hb dX3_nearest_136 (by decide) ?_
            refine z_icmp_ne (tgt := 144) hx hb dX3_nearest_137 (by decide) (by omega) (by omega) (fun c_137 => ?_) (fun c_137 => ?_)
            · refine lv_iinc (v := nI (i + 1)) (lv' := [(7, .int (nI (i + 1))), (8, .int (nI 1)), (0, .ref y), (1, .int a), (2, .int b), (3, .int (nI dn)), (4, .int (nI sm)), (5, .int (nI an)), (6, .int (nI bst))]) hx hb dX3_nearest_144 hl (k := 8) rfl (nI_add i 1) (by decide) rfl (fun ls hl => ?_)
              refine lv_goto (tgt := 6) hx hb dX3_nearest_147 (by decide) ?_
              exact ih ((i + 1, some bst)) _ ⟨lv_sub hl [2, 3, 4, 5, 6, 7, 8, 0] rfl, by omega, hns.stay (Or.inl ⟨by omega, Int64.le_of_lt ho2⟩)⟩ (by first | omega | (dsimp only; omega))
            · refine lv_iload hx hb dX3_nearest_140 (lv_at hl 8 rfl) ?_
              refine lv_istore (lv' := [(6, .int (nI i)), (8, .int (nI 1)), (0, .ref y), (1, .int a), (2, .int b), (3, .int (nI dn)), (4, .int (nI sm)), (5, .int (nI an)), (7, .int (nI i))]) hx hb dX3_nearest_142 hl (by decide) rfl (fun ls hl => ?_)
              refine lv_iinc (v := nI (i + 1)) (lv' := [(7, .int (nI (i + 1))), (6, .int (nI i)), (8, .int (nI 1)), (0, .ref y), (1, .int a), (2, .int b), (3, .int (nI dn)), (4, .int (nI sm)), (5, .int (nI an))]) hx hb dX3_nearest_144 hl (k := 8) rfl (nI_add i 1) (by decide) rfl (fun ls hl => ?_)
              refine lv_goto (tgt := 6) hx hb dX3_nearest_147 (by decide) ?_
              exact ih ((i + 1, some i)) _ ⟨lv_sub hl [3, 4, 5, 6, 7, 8, 1, 0] rfl, by omega, hns.take hok (Or.inr ⟨by omega, Int64.le_of_lt ho2⟩)⟩ (by first | omega | (dsimp only; omega))
          · refine lv_if_le (tgt := 136) hx hb dX3_nearest_129 (by decide) (fun q => absurd q (by decide)) (fun _ => ?_)
            refine lv_iconst (v := nI 1) hx hb dX3_nearest_132 (by decide) ?_
            refine lv_goto (tgt := 137) hx hb dX3_nearest_133 (by decide) ?_
            refine z_icmp_ne (tgt := 144) hx hb dX3_nearest_137 (by decide) (by omega) (by omega) (fun c_137 => ?_) (fun c_137 => ?_)
            · refine lv_iinc (v := nI (i + 1)) (lv' := [(7, .int (nI (i + 1))), (8, .int (nI 1)), (0, .ref y), (1, .int a), (2, .int b), (3, .int (nI dn)), (4, .int (nI sm)), (5, .int (nI an)), (6, .int (nI bst))]) hx hb dX3_nearest_144 hl (k := 8) rfl (nI_add i 1) (by decide) rfl (fun ls hl => ?_)
              refine lv_goto (tgt := 6) hx hb dX3_nearest_147 (by decide) ?_
              exact ih ((i + 1, some bst)) _ ⟨lv_sub hl [2, 3, 4, 5, 6, 7, 8, 0] rfl, by omega, hns.stay (Or.inr ⟨by omega, Int64.le_of_lt ho2⟩)⟩ (by first | omega | (dsimp only; omega))
            · refine lv_iload hx hb dX3_nearest_140 (lv_at hl 8 rfl) ?_
              refine lv_istore (lv' := [(6, .int (nI i)), (8, .int (nI 1)), (0, .ref y), (1, .int a), (2, .int b), (3, .int (nI dn)), (4, .int (nI sm)), (5, .int (nI an)), (7, .int (nI i))]) hx hb dX3_nearest_142 hl (by decide) rfl (fun ls hl => ?_)
              refine lv_iinc (v := nI (i + 1)) (lv' := [(7, .int (nI (i + 1))), (6, .int (nI i)), (8, .int (nI 1)), (0, .ref y), (1, .int a), (2, .int b), (3, .int (nI dn)), (4, .int (nI sm)), (5, .int (nI an))]) hx hb dX3_nearest_144 hl (k := 8) rfl (nI_add i 1) (by decide) rfl (fun ls hl => ?_)
              refine lv_goto (tgt := 6) hx hb dX3_nearest_147 (by decide) ?_
              exact ih ((i + 1, some i)) _ ⟨lv_sub hl [3, 4, 5, 6, 7, 8, 1, 0] rfl, by omega, hns.take hok (Or.inl ⟨by omega, Int64.le_of_lt ho2⟩)⟩ (by first | omega | (dsimp only; omega))
          · refine lv_if_le (tgt := 136) hx hb dX3_nearest_129 (by decide) (fun _ => ?_) (fun q => absurd (by decide) q)
            refine lv_iconst (v := nI 0) hx hb dX3_nearest_136 (by decide) ?_
            refine z_icmp_ne (tgt := 144) hx hb dX3_nearest_137 (by decide) (by omega) (by omega) (fun c_137 => ?_) (fun c_137 => ?_)
            · refine lv_iinc (v := nI (i + 1)) (lv' := [(7, .int (nI (i + 1))), (8, .int (nI 1)), (0, .ref y), (1, .int a), (2, .int b), (3, .int (nI dn)), (4, .int (nI sm)), (5, .int (nI an)), (6, .int (nI bst))]) hx hb dX3_nearest_144 hl (k := 8) rfl (nI_add i 1) (by decide) rfl (fun ls hl => ?_)
              refine lv_goto (tgt := 6) hx hb dX3_nearest_147 (by decide) ?_
              exact ih ((i + 1, some bst)) _ ⟨lv_sub hl [2, 3, 4, 5, 6, 7, 8, 0] rfl, by omega, hns.stay (Or.inl ⟨by omega, by rw [ho2]; exact Int64.le_refl _⟩)⟩ (by first | omega | (dsimp only; omega))
            · refine lv_iload hx hb dX3_nearest_140 (lv_at hl 8 rfl) ?_
              refine lv_istore (lv' := [(6, .int (nI i)), (8, .int (nI 1)), (0, .ref y), (1, .int a), (2, .int b), (3, .int (nI dn)), (4, .int (nI sm)), (5, .int (nI an)), (7, .int (nI i))]) hx hb dX3_nearest_142 hl (by decide) rfl (fun ls hl => ?_)
              refine lv_iinc (v := nI (i + 1)) (lv' := [(7, .int (nI (i + 1))), (6, .int (nI i)), (8, .int (nI 1)), (0, .ref y), (1, .int a), (2, .int b), (3, .int (nI dn)), (4, .int (nI sm)), (5, .int (nI an))]) hx hb dX3_nearest_144 hl (k := 8) rfl (nI_add i 1) (by decide) rfl (fun ls hl => ?_)
              refine lv_goto (tgt := 6) hx hb dX3_nearest_147 (by decide) ?_
              exact ih ((i + 1, some i)) _ ⟨lv_sub hl [3, 4, 5, 6, 7, 8, 1, 0] rfl, by omega, hns.take hok (Or.inr ⟨by omega, by rw [ho2]; exact Int64.le_refl _⟩)⟩ (by first | omega | (dsimp only; omega))
      · refine lv_iload hx hb dX3_nearest_50 (lv_at hl 0 rfl) ?_
        refine lv_if_ne (tgt := 63) hx hb dX3_nearest_52 (by decide) (fun _ => ?_) (fun q => absurd q (by decide))
        refine lv_iload_n hx hb dX3_nearest_63 rfl (lv_at hl 4 rfl) ?_
        refine lv_iload hx hb dX3_nearest_64 (lv_at hl 0 rfl) ?_
        refine lv_if_ge (tgt := 73) hx hb dX3_nearest_66 (by decide) (fun _ => ?_) (fun q => absurd (by decide) q)
        refine lv_iconst (v := nI 0) hx hb dX3_nearest_73 (by decide) ?_
        refine z_icmp_eq (tgt := 80) hx hb dX3_nearest_74 (by decide) (by omega) (by omega) (fun c_74 => ?_) (fun c_74 => ?_)
        · have hok : (okN (pk a b) dn sm an) (pk (fa i) (fb i)) := Or.inr (Or.inr (Or.inr ⟨by omega, ho1⟩))
          rcases o with _ | bst
          · have hl : lv_has ls 9 [(8, .int (nI 1)), (0, .ref y), (1, .int a), (2, .int b), (3, .int (nI dn)), (4, .int (nI sm)), (5, .int (nI an)), (6, .int (-1)), (7, .int (nI i))] := hl
            refine lv_iload hx hb dX3_nearest_80 (lv_at hl 7 rfl) ?_
            refine lv_if_lt (tgt := 140) hx hb dX3_nearest_82 (by decide) (fun _ => ?_) (fun q => absurd (by decide) q)
            refine lv_iload hx hb dX3_nearest_140 (lv_at hl 8 rfl) ?_
            refine lv_istore (lv' := [(6, .int (nI i)), (8, .int (nI 1)), (0, .ref y), (1, .int a), (2, .int b), (3, .int (nI dn)), (4, .int (nI sm)), (5, .int (nI an)), (7, .int (nI i))]) hx hb dX3_nearest_142 hl (by decide) rfl (fun ls hl => ?_)
            refine lv_iinc (v := nI (i + 1)) (lv' := [(7, .int (nI (i + 1))), (6, .int (nI i)), (8, .int (nI 1)), (0, .ref y), (1, .int a), (2, .int b), (3, .int (nI dn)), (4, .int (nI sm)), (5, .int (nI an))]) hx hb dX3_nearest_144 hl (k := 8) rfl (nI_add i 1) (by decide) rfl (fun ls hl => ?_)
            refine lv_goto (tgt := 6) hx hb dX3_nearest_147 (by decide) ?_
            exact ih ((i + 1, some i)) _ ⟨lv_sub hl [3, 4, 5, 6, 7, 8, 1, 0] rfl, by omega, hns.first hok⟩ (by first | omega | (dsimp only; omega))
          · have hl : lv_has ls 9 [(8, .int (nI 1)), (0, .ref y), (1, .int a), (2, .int b), (3, .int (nI dn)), (4, .int (nI sm)), (5, .int (nI an)), (6, .int (nI bst)), (7, .int (nI i))] := hl
            have hbl : bst < i := hns.1
            refine lv_iload hx hb dX3_nearest_80 (lv_at hl 7 rfl) ?_
            refine z_if_lt (tgt := 140) hx hb dX3_nearest_82 (by decide) (by omega) ?_
            refine lv_iload_n hx hb dX3_nearest_85 rfl (lv_at hl 4 rfl) ?_
            refine lv_aload_n hx hb dX3_nearest_86 rfl (lv_at hl 1 rfl) ?_
            refine va_get (D := D) (ci := 3) (v := .ref r2) (C := RX3) (T := TX3) (N := 10) hx hb hts lk1 hown hK hP 0 rfl rfl 2 (by decide) lk0 (fun _ h9 => h9) rfl dX3_nearest_87 ?_
            refine va_get (D := D) (ci := 2) (v := .ref a0) (C := RX2) (T := TX2) (N := 4) hx hb hts lk3 hown hK hP 1 rfl rfl 0 (by decide) lk4 (fun _ h9 => h9) rfl dX3_nearest_90 ?_
            refine lv_iload hx hb dX3_nearest_93 (lv_at hl 8 rfl) ?_
            refine z_iald hx hb hK hP 2 rfl (j := i) (by omega) (by omega) dX3_nearest_95 ?_
            refine lv_aload_n hx hb dX3_nearest_96 rfl (lv_at hl 1 rfl) ?_
            refine va_get (D := D) (ci := 3) (v := .ref r2) (C := RX3) (T := TX3) (N := 10) hx hb hts lk1 hown hK hP 0 rfl rfl 2 (by decide) lk0 (fun _ h9 => h9) rfl dX3_nearest_97 ?_
            refine va_get (D := D) (ci := 2) (v := .ref b0) (C := RX2) (T := TX2) (N := 4) hx hb hts lk3 hown hK hP 1 rfl rfl 1 (by decide) lk5 (fun _ h9 => h9) rfl dX3_nearest_100 ?_
            refine lv_iload hx hb dX3_nearest_103 (lv_at hl 8 rfl) ?_
            refine z_iald hx hb hK hP 3 rfl (j := i) (by omega) (by omega) dX3_nearest_105 ?_
            refine lv_aload_n hx hb dX3_nearest_106 rfl (lv_at hl 1 rfl) ?_
            refine va_get (D := D) (ci := 3) (v := .ref r2) (C := RX3) (T := TX3) (N := 10) hx hb hts lk1 hown hK hP 0 rfl rfl 2 (by decide) lk0 (fun _ h9 => h9) rfl dX3_nearest_107 ?_
            refine va_get (D := D) (ci := 2) (v := .ref a0) (C := RX2) (T := TX2) (N := 4) hx hb hts lk3 hown hK hP 1 rfl rfl 0 (by decide) lk4 (fun _ h9 => h9) rfl dX3_nearest_110 ?_
            refine lv_iload hx hb dX3_nearest_113 (lv_at hl 7 rfl) ?_
            refine z_iald hx hb hK hP 2 rfl (j := bst) (by omega) (by omega) dX3_nearest_115 ?_
            refine lv_aload_n hx hb dX3_nearest_116 rfl (lv_at hl 1 rfl) ?_
            refine va_get (D := D) (ci := 3) (v := .ref r2) (C := RX3) (T := TX3) (N := 10) hx hb hts lk1 hown hK hP 0 rfl rfl 2 (by decide) lk0 (fun _ h9 => h9) rfl dX3_nearest_117 ?_
            refine va_get (D := D) (ci := 2) (v := .ref b0) (C := RX2) (T := TX2) (N := 4) hx hb hts lk3 hown hK hP 1 rfl rfl 1 (by decide) lk5 (fun _ h9 => h9) rfl dX3_nearest_120 ?_
            refine lv_iload hx hb dX3_nearest_123 (lv_at hl 7 rfl) ?_
            refine z_iald hx hb hK hP 3 rfl (j := bst) (by omega) (by omega) dX3_nearest_125 ?_
            refine vp_callSi (va_Run.run (va_runS (As := [.int (fa i), .int (fb i), .int (fa bst), .int (fb bst)]) (rest := [.int (nI dn)]) ⟨hx, hb, hml, hown, hts⟩ (c_X3_order l (fa i) (fb i) (fa bst) (fb bst)) (va_cwS 4 hts gX3_nearest_X3_order rfl rfl rfl (by decide +kernel) ⟨Nat.le_of_ble_eq_true rfl, Nat.le_of_ble_eq_true rfl⟩) z_preT rfl rfl hl.1 rfl (lv_room (Nat.le_of_ble_eq_true rfl)) dX3_nearest_126 ⟨Nat.zero_le _, Nat.zero_le _⟩)) (fun r_5 hr_5 => ?_)
            rcases hr_5 with ⟨ho2, rfl⟩ | ⟨ho2, rfl⟩ | ⟨ho2, rfl⟩
            · refine lv_if_le (tgt := 136) hx hb dX3_nearest_129 (by decide) (fun _ => ?_) (fun q => absurd (by decide) q)
              refine lv_iconst (v := nI 0) hx hb dX3_nearest_136 (by decide) ?_
              refine z_icmp_ne (tgt := 144) hx hb dX3_nearest_137 (by decide) (by omega) (by omega) (fun c_137 => ?_) (fun c_137 => ?_)
              · refine lv_iinc (v := nI (i + 1)) (lv' := [(7, .int (nI (i + 1))), (8, .int (nI 1)), (0, .ref y), (1, .int a), (2, .int b), (3, .int (nI dn)), (4, .int (nI sm)), (5, .int (nI an)), (6, .int (nI bst))]) hx hb dX3_nearest_144 hl (k := 8) rfl (nI_add i 1) (by decide) rfl (fun ls hl => ?_)
                refine lv_goto (tgt := 6) hx hb dX3_nearest_147 (by decide) ?_
                exact ih ((i + 1, some bst)) _ ⟨lv_sub hl [2, 3, 4, 5, 6, 7, 8, 0] rfl, by omega, hns.stay (Or.inl ⟨by omega, Int64.le_of_lt ho2⟩)⟩ (by first | omega | (dsimp only; omega))
              · refine lv_iload hx hb dX3_nearest_140 (lv_at hl 8 rfl) ?_
                refine lv_istore (lv' := [(6, .int (nI i)), (8, .int (nI 1)), (0, .ref y), (1, .int a), (2, .int b), (3, .int (nI dn)), (4, .int (nI sm)), (5, .int (nI an)), (7, .int (nI i))]) hx hb dX3_nearest_142 hl (by decide) rfl (fun ls hl => ?_)
                refine lv_iinc (v := nI (i + 1)) (lv' := [(7, .int (nI (i + 1))), (6, .int (nI i)), (8, .int (nI 1)), (0, .ref y), (1, .int a), (2, .int b), (3, .int (nI dn)), (4, .int (nI sm)), (5, .int (nI an))]) hx hb dX3_nearest_144 hl (k := 8) rfl (nI_add i 1) (by decide) rfl (fun ls hl => ?_)
                refine lv_goto (tgt := 6) hx hb dX3_nearest_147 (by decide) ?_
                exact ih ((i + 1, some i)) _ ⟨lv_sub hl [3, 4, 5, 6, 7, 8, 1, 0] rfl, by omega, hns.take hok (Or.inr ⟨by omega, Int64.le_of_lt ho2⟩)⟩ (by first | omega | (dsimp only; omega))
            · refine lv_if_le (tgt := 136) hx hb dX3_nearest_129 (by decide) (fun q => absurd q (by decide)) (fun _ => ?_)
              refine lv_iconst (v := nI 1) hx hb dX3_nearest_132 (by decide) ?_
              refine lv_goto (tgt := 137) hx hb dX3_nearest_133 (by decide) ?_
              refine z_icmp_ne (tgt := 144) hx hb dX3_nearest_137 (by decide) (by omega) (by omega) (fun c_137 => ?_) (fun c_137 => ?_)
              · refine lv_iinc (v := nI (i + 1)) (lv' := [(7, .int (nI (i + 1))), (8, .int (nI 1)), (0, .ref y), (1, .int a), (2, .int b), (3, .int (nI dn)), (4, .int (nI sm)), (5, .int (nI an)), (6, .int (nI bst))]) hx hb dX3_nearest_144 hl (k := 8) rfl (nI_add i 1) (by decide) rfl (fun ls hl => ?_)
                refine lv_goto (tgt := 6) hx hb dX3_nearest_147 (by decide) ?_
                exact ih ((i + 1, some bst)) _ ⟨lv_sub hl [2, 3, 4, 5, 6, 7, 8, 0] rfl, by omega, hns.stay (Or.inr ⟨by omega, Int64.le_of_lt ho2⟩)⟩ (by first | omega | (dsimp only; omega))
              · refine lv_iload hx hb dX3_nearest_140 (lv_at hl 8 rfl) ?_
                refine lv_istore (lv' := [(6, .int (nI i)), (8, .int (nI 1)), (0, .ref y), (1, .int a), (2, .int b), (3, .int (nI dn)), (4, .int (nI sm)), (5, .int (nI an)), (7, .int (nI i))]) hx hb dX3_nearest_142 hl (by decide) rfl (fun ls hl => ?_)
                refine lv_iinc (v := nI (i + 1)) (lv' := [(7, .int (nI (i + 1))), (6, .int (nI i)), (8, .int (nI 1)), (0, .ref y), (1, .int a), (2, .int b), (3, .int (nI dn)), (4, .int (nI sm)), (5, .int (nI an))]) hx hb dX3_nearest_144 hl (k := 8) rfl (nI_add i 1) (by decide) rfl (fun ls hl => ?_)
                refine lv_goto (tgt := 6) hx hb dX3_nearest_147 (by decide) ?_
                exact ih ((i + 1, some i)) _ ⟨lv_sub hl [3, 4, 5, 6, 7, 8, 1, 0] rfl, by omega, hns.take hok (Or.inl ⟨by omega, Int64.le_of_lt ho2⟩)⟩ (by first | omega | (dsimp only; omega))
            · refine lv_if_le (tgt := 136) hx hb dX3_nearest_129 (by decide) (fun _ => ?_) (fun q => absurd (by decide) q)
              refine lv_iconst (v := nI 0) hx hb dX3_nearest_136 (by decide) ?_
              refine z_icmp_ne (tgt := 144) hx hb dX3_nearest_137 (by decide) (by omega) (by omega) (fun c_137 => ?_) (fun c_137 => ?_)
              · refine lv_iinc (v := nI (i + 1)) (lv' := [(7, .int (nI (i + 1))), (8, .int (nI 1)), (0, .ref y), (1, .int a), (2, .int b), (3, .int (nI dn)), (4, .int (nI sm)), (5, .int (nI an)), (6, .int (nI bst))]) hx hb dX3_nearest_144 hl (k := 8) rfl (nI_add i 1) (by decide) rfl (fun ls hl => ?_)
                refine lv_goto (tgt := 6) hx hb dX3_nearest_147 (by decide) ?_
                exact ih ((i + 1, some bst)) _ ⟨lv_sub hl [2, 3, 4, 5, 6, 7, 8, 0] rfl, by omega, hns.stay (Or.inl ⟨by omega, by rw [ho2]; exact Int64.le_refl _⟩)⟩ (by first | omega | (dsimp only; omega))
              · refine lv_iload hx hb dX3_nearest_140 (lv_at hl 8 rfl) ?_
                refine lv_istore (lv' := [(6, .int (nI i)), (8, .int (nI 1)), (0, .ref y), (1, .int a), (2, .int b), (3, .int (nI dn)), (4, .int (nI sm)), (5, .int (nI an)), (7, .int (nI i))]) hx hb dX3_nearest_142 hl (by decide) rfl (fun ls hl => ?_)
                refine lv_iinc (v := nI (i + 1)) (lv' := [(7, .int (nI (i + 1))), (6, .int (nI i)), (8, .int (nI 1)), (0, .ref y), (1, .int a), (2, .int b), (3, .int (nI dn)), (4, .int (nI sm)), (5, .int (nI an))]) hx hb dX3_nearest_144 hl (k := 8) rfl (nI_add i 1) (by decide) rfl (fun ls hl => ?_)
                refine lv_goto (tgt := 6) hx hb dX3_nearest_147 (by decide) ?_
                exact ih ((i + 1, some i)) _ ⟨lv_sub hl [3, 4, 5, 6, 7, 8, 1, 0] rfl, by omega, hns.take hok (Or.inr ⟨by omega, by rw [ho2]; exact Int64.le_refl _⟩)⟩ (by first | omega | (dsimp only; omega))
        · refine lv_goto (tgt := 144) hx hb dX3_nearest_77 (by decide) ?_
          refine lv_iinc (v := nI (i + 1)) (lv' := [(7, .int (nI (i + 1))), (8, .int (nI 1)), (0, .ref y), (1, .int a), (2, .int b), (3, .int (nI dn)), (4, .int (nI sm)), (5, .int (nI an)), (6, .int (oI o))]) hx hb dX3_nearest_144 hl (k := 8) rfl (nI_add i 1) (by decide) rfl (fun ls hl => ?_)
          refine lv_goto (tgt := 6) hx hb dX3_nearest_147 (by decide) ?_
          exact ih ((i + 1, o)) _ ⟨lv_sub hl [2, 3, 4, 5, 6, 7, 8, 0] rfl, by omega, hns.skip (fun q => q.elim (fun z => absurd c_47 (by omega)) (fun z => z.elim (fun y => absurd ho1 (by rw [y.1]; exact Int64.lt_irrefl)) (fun y => y.elim (fun x => absurd x.2 (Int64.lt_asymm ho1)) (fun x => absurd x.1 (by omega)))))⟩ (by first | omega | (dsimp only; omega))
    · refine lv_istore (lv' := [(8, .int (nI 0)), (0, .ref y), (1, .int a), (2, .int b), (3, .int (nI dn)), (4, .int (nI sm)), (5, .int (nI an)), (6, .int (oI o)), (7, .int (nI i))]) hx hb dX3_nearest_43 hl (by decide) rfl (fun ls hl => ?_)
      refine lv_iload hx hb dX3_nearest_45 (lv_at hl 6 rfl) ?_
      refine z_if_ne (tgt := 80) hx hb dX3_nearest_47 (by decide) (by omega) (fun c_47 => ?_) (fun c_47 => ?_)
      · have hok : (okN (pk a b) dn sm an) (pk (fa i) (fb i)) := Or.inl (by omega)
        rcases o with _ | bst
        · have hl : lv_has ls 9 [(8, .int (nI 0)), (0, .ref y), (1, .int a), (2, .int b), (3, .int (nI dn)), (4, .int (nI sm)), (5, .int (nI an)), (6, .int (-1)), (7, .int (nI i))] := hl
          refine lv_iload hx hb dX3_nearest_80 (lv_at hl 7 rfl) ?_
          refine lv_if_lt (tgt := 140) hx hb dX3_nearest_82 (by decide) (fun _ => ?_) (fun q => absurd (by decide) q)
          refine lv_iload hx hb dX3_nearest_140 (lv_at hl 8 rfl) ?_
          refine lv_istore (lv' := [(6, .int (nI i)), (8, .int (nI 0)), (0, .ref y), (1, .int a), (2, .int b), (3, .int (nI dn)), (4, .int (nI sm)), (5, .int (nI an)), (7, .int (nI i))]) hx hb dX3_nearest_142 hl (by decide) rfl (fun ls hl => ?_)
          refine lv_iinc (v := nI (i + 1)) (lv' := [(7, .int (nI (i + 1))), (6, .int (nI i)), (8, .int (nI 0)), (0, .ref y), (1, .int a), (2, .int b), (3, .int (nI dn)), (4, .int (nI sm)), (5, .int (nI an))]) hx hb dX3_nearest_144 hl (k := 8) rfl (nI_add i 1) (by decide) rfl (fun ls hl => ?_)
          refine lv_goto (tgt := 6) hx hb dX3_nearest_147 (by decide) ?_
          exact ih ((i + 1, some i)) _ ⟨lv_sub hl [3, 4, 5, 6, 7, 8, 1, 0] rfl, by omega, hns.first hok⟩ (by first | omega | (dsimp only; omega))
        · have hl : lv_has ls 9 [(8, .int (nI 0)), (0, .ref y), (1, .int a), (2, .int b), (3, .int (nI dn)), (4, .int (nI sm)), (5, .int (nI an)), (6, .int (nI bst)), (7, .int (nI i))] := hl
          have hbl : bst < i := hns.1
          refine lv_iload hx hb dX3_nearest_80 (lv_at hl 7 rfl) ?_
          refine z_if_lt (tgt := 140) hx hb dX3_nearest_82 (by decide) (by omega) ?_
          refine lv_iload_n hx hb dX3_nearest_85 rfl (lv_at hl 4 rfl) ?_
          refine lv_aload_n hx hb dX3_nearest_86 rfl (lv_at hl 1 rfl) ?_
          refine va_get (D := D) (ci := 3) (v := .ref r2) (C := RX3) (T := TX3) (N := 10) hx hb hts lk1 hown hK hP 0 rfl rfl 2 (by decide) lk0 (fun _ h9 => h9) rfl dX3_nearest_87 ?_
          refine va_get (D := D) (ci := 2) (v := .ref a0) (C := RX2) (T := TX2) (N := 4) hx hb hts lk3 hown hK hP 1 rfl rfl 0 (by decide) lk4 (fun _ h9 => h9) rfl dX3_nearest_90 ?_
          refine lv_iload hx hb dX3_nearest_93 (lv_at hl 8 rfl) ?_
          refine z_iald hx hb hK hP 2 rfl (j := i) (by omega) (by omega) dX3_nearest_95 ?_
          refine lv_aload_n hx hb dX3_nearest_96 rfl (lv_at hl 1 rfl) ?_
          refine va_get (D := D) (ci := 3) (v := .ref r2) (C := RX3) (T := TX3) (N := 10) hx hb hts lk1 hown hK hP 0 rfl rfl 2 (by decide) lk0 (fun _ h9 => h9) rfl dX3_nearest_97 ?_
          refine va_get (D := D) (ci := 2) (v := .ref b0) (C := RX2) (T := TX2) (N := 4) hx hb hts lk3 hown hK hP 1 rfl rfl 1 (by decide) lk5 (fun _ h9 => h9) rfl dX3_nearest_100 ?_
          refine lv_iload hx hb dX3_nearest_103 (lv_at hl 8 rfl) ?_
          refine z_iald hx hb hK hP 3 rfl (j := i) (by omega) (by omega) dX3_nearest_105 ?_
          refine lv_aload_n hx hb dX3_nearest_106 rfl (lv_at hl 1 rfl) ?_
          refine va_get (D := D) (ci := 3) (v := .ref r2) (C := RX3) (T := TX3) (N := 10) hx hb hts lk1 hown hK hP 0 rfl rfl 2 (by decide) lk0 (fun _ h9 => h9) rfl dX3_nearest_107 ?_
          refine va_get (D := D) (ci := 2) (v := .ref a0) (C := RX2) (T := TX2) (N := 4) hx hb hts lk3 hown hK hP 1 rfl rfl 0 (by decide) lk4 (fun _ h9 => h9) rfl dX3_nearest_110 ?_
          refine lv_iload hx hb dX3_nearest_113 (lv_at hl 7 rfl) ?_
          refine z_iald hx hb hK hP 2 rfl (j := bst) (by omega) (by omega) dX3_nearest_115 ?_
          refine lv_aload_n hx hb dX3_nearest_116 rfl (lv_at hl 1 rfl) ?_
          refine va_get (D := D) (ci := 3) (v := .ref r2) (C := RX3) (T := TX3) (N := 10) hx hb hts lk1 hown hK hP 0 rfl rfl 2 (by decide) lk0 (fun _ h9 => h9) rfl dX3_nearest_117 ?_
          refine va_get (D := D) (ci := 2) (v := .ref b0) (C := RX2) (T := TX2) (N := 4) hx hb hts lk3 hown hK hP 1 rfl rfl 1 (by decide) lk5 (fun _ h9 => h9) rfl dX3_nearest_120 ?_
          refine lv_iload hx hb dX3_nearest_123 (lv_at hl 7 rfl) ?_
          refine z_iald hx hb hK hP 3 rfl (j := bst) (by omega) (by omega) dX3_nearest_125 ?_
          refine vp_callSi (va_Run.run (va_runS (As := [.int (fa i), .int (fb i), .int (fa bst), .int (fb bst)]) (rest := [.int (nI dn)]) ⟨hx, hb, hml, hown, hts⟩ (c_X3_order l (fa i) (fb i) (fa bst) (fb bst)) (va_cwS 4 hts gX3_nearest_X3_order rfl rfl rfl (by decide +kernel) ⟨Nat.le_of_ble_eq_true rfl, Nat.le_of_ble_eq_true rfl⟩) z_preT rfl rfl hl.1 rfl (lv_room (Nat.le_of_ble_eq_true rfl)) dX3_nearest_126 ⟨Nat.zero_le _, Nat.zero_le _⟩)) (fun r_6 hr_6 => ?_)
          rcases hr_6 with ⟨ho2, rfl⟩ | ⟨ho2, rfl⟩ | ⟨ho2, rfl⟩
          · refine lv_if_le (tgt := 136) hx hb dX3_nearest_129 (by decide) (fun _ => ?_) (fun q => absurd (by decide) q)
            refine lv_iconst (v := nI 0) hx hb dX3_nearest_136 (by decide) ?_
            refine z_icmp_ne (tgt := 144) hx hb dX3_nearest_137 (by decide) (by omega) (by omega) (fun c_137 => ?_) (fun c_137 => ?_)
            · refine lv_iinc (v := nI (i + 1)) (lv' := [(7, .int (nI (i + 1))), (8, .int (nI 0)), (0, .ref y), (1, .int a), (2, .int b), (3, .int (nI dn)), (4, .int (nI sm)), (5, .int (nI an)), (6, .int (nI bst))]) hx hb dX3_nearest_144 hl (k := 8) rfl (nI_add i 1) (by decide) rfl (fun ls hl => ?_)
              refine lv_goto (tgt := 6) hx hb dX3_nearest_147 (by decide) ?_
              exact ih ((i + 1, some bst)) _ ⟨lv_sub hl [2, 3, 4, 5, 6, 7, 8, 0] rfl, by omega, hns.stay (Or.inl ⟨by omega, Int64.le_of_lt ho2⟩)⟩ (by first | omega | (dsimp only; omega))
            · refine lv_iload hx hb dX3_nearest_140 (lv_at hl 8 rfl) ?_
              refine lv_istore (lv' := [(6, .int (nI i)), (8, .int (nI 0)), (0, .ref y), (1, .int a), (2, .int b), (3, .int (nI dn)), (4, .int (nI sm)), (5, .int (nI an)), (7, .int (nI i))]) hx hb dX3_nearest_142 hl (by decide) rfl (fun ls hl => ?_)
              refine lv_iinc (v := nI (i + 1)) (lv' := [(7, .int (nI (i + 1))), (6, .int (nI i)), (8, .int (nI 0)), (0, .ref y), (1, .int a), (2, .int b), (3, .int (nI dn)), (4, .int (nI sm)), (5, .int (nI an))]) hx hb dX3_nearest_144 hl (k := 8) rfl (nI_add i 1) (by decide) rfl (fun ls hl => ?_)
              refine lv_goto (tgt := 6) hx hb dX3_nearest_147 (by decide) ?_
              exact ih ((i + 1, some i)) _ ⟨lv_sub hl [3, 4, 5, 6, 7, 8, 1, 0] rfl, by omega, hns.take hok (Or.inr ⟨by omega, Int64.le_of_lt ho2⟩)⟩ (by first | omega | (dsimp only; omega))
          · refine lv_if_le (tgt := 136) hx hb dX3_nearest_129 (by decide) (fun q => absurd q (by decide)) (fun _ => ?_)
            refine lv_iconst (v := nI 1) hx hb dX3_nearest_132 (by decide) ?_
            refine lv_goto (tgt := 137) hx hb dX3_nearest_133 (by decide) ?_
            refine z_icmp_ne (tgt := 144) hx hb dX3_nearest_137 (by decide) (by omega) (by omega) (fun c_137 => ?_) (fun c_137 => ?_)
            · refine lv_iinc (v := nI (i + 1)) (lv' := [(7, .int (nI (i + 1))), (8, .int (nI 0)), (0, .ref y), (1, .int a), (2, .int b), (3, .int (nI dn)), (4, .int (nI sm)), (5, .int (nI an)), (6, .int (nI bst))]) hx hb dX3_nearest_144 hl (k := 8) rfl (nI_add i 1) (by decide) rfl (fun ls hl => ?_)
              refine lv_goto (tgt := 6) hx hb dX3_nearest_147 (by decide) ?_
              exact ih ((i + 1, some bst)) _ ⟨lv_sub hl [2, 3, 4, 5, 6, 7, 8, 0] rfl, by omega, hns.stay (Or.inr ⟨by omega, Int64.le_of_lt ho2⟩)⟩ (by first | omega | (dsimp only; omega))
            · refine lv_iload hx hb dX3_nearest_140 (lv_at hl 8 rfl) ?_
              refine lv_istore (lv' := [(6, .int (nI i)), (8, .int (nI 0)), (0, .ref y), (1, .int a), (2, .int b), (3, .int (nI dn)), (4, .int (nI sm)), (5, .int (nI an)), (7, .int (nI i))]) hx hb dX3_nearest_142 hl (by decide) rfl (fun ls hl => ?_)
              refine lv_iinc (v := nI (i + 1)) (lv' := [(7, .int (nI (i + 1))), (6, .int (nI i)), (8, .int (nI 0)), (0, .ref y), (1, .int a), (2, .int b), (3, .int (nI dn)), (4, .int (nI sm)), (5, .int (nI an))]) hx hb dX3_nearest_144 hl (k := 8) rfl (nI_add i 1) (by decide) rfl (fun ls hl => ?_)
              refine lv_goto (tgt := 6) hx hb dX3_nearest_147 (by decide) ?_
              exact ih ((i + 1, some i)) _ ⟨lv_sub hl [3, 4, 5, 6, 7, 8, 1, 0] rfl, by omega, hns.take hok (Or.inl ⟨by omega, Int64.le_of_lt ho2⟩)⟩ (by first | omega | (dsimp only; omega))
          · refine lv_if_le (tgt := 136) hx hb dX3_nearest_129 (by decide) (fun _ => ?_) (fun q => absurd (by decide) q)
            refine lv_iconst (v := nI 0) hx hb dX3_nearest_136 (by decide) ?_
            refine z_icmp_ne (tgt := 144) hx hb dX3_nearest_137 (by decide) (by omega) (by omega) (fun c_137 => ?_) (fun c_137 => ?_)
            · refine lv_iinc (v := nI (i + 1)) (lv' := [(7, .int (nI (i + 1))), (8, .int (nI 0)), (0, .ref y), (1, .int a), (2, .int b), (3, .int (nI dn)), (4, .int (nI sm)), (5, .int (nI an)), (6, .int (nI bst))]) hx hb dX3_nearest_144 hl (k := 8) rfl (nI_add i 1) (by decide) rfl (fun ls hl => ?_)
              refine lv_goto (tgt := 6) hx hb dX3_nearest_147 (by decide) ?_
              exact ih ((i + 1, some bst)) _ ⟨lv_sub hl [2, 3, 4, 5, 6, 7, 8, 0] rfl, by omega, hns.stay (Or.inl ⟨by omega, by rw [ho2]; exact Int64.le_refl _⟩)⟩ (by first | omega | (dsimp only; omega))
            · refine lv_iload hx hb dX3_nearest_140 (lv_at hl 8 rfl) ?_
              refine lv_istore (lv' := [(6, .int (nI i)), (8, .int (nI 0)), (0, .ref y), (1, .int a), (2, .int b), (3, .int (nI dn)), (4, .int (nI sm)), (5, .int (nI an)), (7, .int (nI i))]) hx hb dX3_nearest_142 hl (by decide) rfl (fun ls hl => ?_)
              refine lv_iinc (v := nI (i + 1)) (lv' := [(7, .int (nI (i + 1))), (6, .int (nI i)), (8, .int (nI 0)), (0, .ref y), (1, .int a), (2, .int b), (3, .int (nI dn)), (4, .int (nI sm)), (5, .int (nI an))]) hx hb dX3_nearest_144 hl (k := 8) rfl (nI_add i 1) (by decide) rfl (fun ls hl => ?_)
              refine lv_goto (tgt := 6) hx hb dX3_nearest_147 (by decide) ?_
              exact ih ((i + 1, some i)) _ ⟨lv_sub hl [3, 4, 5, 6, 7, 8, 1, 0] rfl, by omega, hns.take hok (Or.inr ⟨by omega, by rw [ho2]; exact Int64.le_refl _⟩)⟩ (by first | omega | (dsimp only; omega))
      · refine lv_iload hx hb dX3_nearest_50 (lv_at hl 0 rfl) ?_
        refine lv_if_ne (tgt := 63) hx hb dX3_nearest_52 (by decide) (fun q => absurd (by decide) q) (fun _ => ?_)
        refine lv_iload hx hb dX3_nearest_55 (lv_at hl 5 rfl) ?_
        refine z_if_ne (tgt := 80) hx hb dX3_nearest_57 (by decide) (by omega) (fun c_57 => ?_) (fun c_57 => ?_)
        · have hok : (okN (pk a b) dn sm an) (pk (fa i) (fb i)) := Or.inr (Or.inl ⟨ho1, by omega⟩)
          rcases o with _ | bst
          · have hl : lv_has ls 9 [(8, .int (nI 0)), (0, .ref y), (1, .int a), (2, .int b), (3, .int (nI dn)), (4, .int (nI sm)), (5, .int (nI an)), (6, .int (-1)), (7, .int (nI i))] := hl
            refine lv_iload hx hb dX3_nearest_80 (lv_at hl 7 rfl) ?_
            refine lv_if_lt (tgt := 140) hx hb dX3_nearest_82 (by decide) (fun _ => ?_) (fun q => absurd (by decide) q)
            refine lv_iload hx hb dX3_nearest_140 (lv_at hl 8 rfl) ?_
            refine lv_istore (lv' := [(6, .int (nI i)), (8, .int (nI 0)), (0, .ref y), (1, .int a), (2, .int b), (3, .int (nI dn)), (4, .int (nI sm)), (5, .int (nI an)), (7, .int (nI i))]) hx hb dX3_nearest_142 hl (by decide) rfl (fun ls hl => ?_)
            refine lv_iinc (v := nI (i + 1)) (lv' := [(7, .int (nI (i + 1))), (6, .int (nI i)), (8, .int (nI 0)), (0, .ref y), (1, .int a), (2, .int b), (3, .int (nI dn)), (4, .int (nI sm)), (5, .int (nI an))]) hx hb dX3_nearest_144 hl (k := 8) rfl (nI_add i 1) (by decide) rfl (fun ls hl => ?_)
            refine lv_goto (tgt := 6) hx hb dX3_nearest_147 (by decide) ?_
            exact ih ((i + 1, some i)) _ ⟨lv_sub hl [3, 4, 5, 6, 7, 8, 1, 0] rfl, by omega, hns.first hok⟩ (by first | omega | (dsimp only; omega))
          · have hl : lv_has ls 9 [(8, .int (nI 0)), (0, .ref y), (1, .int a), (2, .int b), (3, .int (nI dn)), (4, .int (nI sm)), (5, .int (nI an)), (6, .int (nI bst)), (7, .int (nI i))] := hl
            have hbl : bst < i := hns.1
            refine lv_iload hx hb dX3_nearest_80 (lv_at hl 7 rfl) ?_
            refine z_if_lt (tgt := 140) hx hb dX3_nearest_82 (by decide) (by omega) ?_
            refine lv_iload_n hx hb dX3_nearest_85 rfl (lv_at hl 4 rfl) ?_
            refine lv_aload_n hx hb dX3_nearest_86 rfl (lv_at hl 1 rfl) ?_
            refine va_get (D := D) (ci := 3) (v := .ref r2) (C := RX3) (T := TX3) (N := 10) hx hb hts lk1 hown hK hP 0 rfl rfl 2 (by decide) lk0 (fun _ h9 => h9) rfl dX3_nearest_87 ?_
            refine va_get (D := D) (ci := 2) (v := .ref a0) (C := RX2) (T := TX2) (N := 4) hx hb hts lk3 hown hK hP 1 rfl rfl 0 (by decide) lk4 (fun _ h9 => h9) rfl dX3_nearest_90 ?_
            refine lv_iload hx hb dX3_nearest_93 (lv_at hl 8 rfl) ?_
            refine z_iald hx hb hK hP 2 rfl (j := i) (by omega) (by omega) dX3_nearest_95 ?_
            refine lv_aload_n hx hb dX3_nearest_96 rfl (lv_at hl 1 rfl) ?_
            refine va_get (D := D) (ci := 3) (v := .ref r2) (C := RX3) (T := TX3) (N := 10) hx hb hts lk1 hown hK hP 0 rfl rfl 2 (by decide) lk0 (fun _ h9 => h9) rfl dX3_nearest_97 ?_
            refine va_get (D := D) (ci := 2) (v := .ref b0) (C := RX2) (T := TX2) (N := 4) hx hb hts lk3 hown hK hP 1 rfl rfl 1 (by decide) lk5 (fun _ h9 => h9) rfl dX3_nearest_100 ?_
            refine lv_iload hx hb dX3_nearest_103 (lv_at hl 8 rfl) ?_
            refine z_iald hx hb hK hP 3 rfl (j := i) (by omega) (by omega) dX3_nearest_105 ?_
            refine lv_aload_n hx hb dX3_nearest_106 rfl (lv_at hl 1 rfl) ?_
            refine va_get (D := D) (ci := 3) (v := .ref r2) (C := RX3) (T := TX3) (N := 10) hx hb hts lk1 hown hK hP 0 rfl rfl 2 (by decide) lk0 (fun _ h9 => h9) rfl dX3_nearest_107 ?_
            refine va_get (D := D) (ci := 2) (v := .ref a0) (C := RX2) (T := TX2) (N := 4) hx hb hts lk3 hown hK hP 1 rfl rfl 0 (by decide) lk4 (fun _ h9 => h9) rfl dX3_nearest_110 ?_
            refine lv_iload hx hb dX3_nearest_113 (lv_at hl 7 rfl) ?_
            refine z_iald hx hb hK hP 2 rfl (j := bst) (by omega) (by omega) dX3_nearest_115 ?_
            refine lv_aload_n hx hb dX3_nearest_116 rfl (lv_at hl 1 rfl) ?_
            refine va_get (D := D) (ci := 3) (v := .ref r2) (C := RX3) (T := TX3) (N := 10) hx hb hts lk1 hown hK hP 0 rfl rfl 2 (by decide) lk0 (fun _ h9 => h9) rfl dX3_nearest_117 ?_
            refine va_get (D := D) (ci := 2) (v := .ref b0) (C := RX2) (T := TX2) (N := 4) hx hb hts lk3 hown hK hP 1 rfl rfl 1 (by decide) lk5 (fun _ h9 => h9) rfl dX3_nearest_120 ?_
            refine lv_iload hx hb dX3_nearest_123 (lv_at hl 7 rfl) ?_
            refine z_iald hx hb hK hP 3 rfl (j := bst) (by omega) (by omega) dX3_nearest_125 ?_
            refine vp_callSi (va_Run.run (va_runS (As := [.int (fa i), .int (fb i), .int (fa bst), .int (fb bst)]) (rest := [.int (nI dn)]) ⟨hx, hb, hml, hown, hts⟩ (c_X3_order l (fa i) (fb i) (fa bst) (fb bst)) (va_cwS 4 hts gX3_nearest_X3_order rfl rfl rfl (by decide +kernel) ⟨Nat.le_of_ble_eq_true rfl, Nat.le_of_ble_eq_true rfl⟩) z_preT rfl rfl hl.1 rfl (lv_room (Nat.le_of_ble_eq_true rfl)) dX3_nearest_126 ⟨Nat.zero_le _, Nat.zero_le _⟩)) (fun r_7 hr_7 => ?_)
            rcases hr_7 with ⟨ho2, rfl⟩ | ⟨ho2, rfl⟩ | ⟨ho2, rfl⟩
            · refine lv_if_le (tgt := 136) hx hb dX3_nearest_129 (by decide) (fun _ => ?_) (fun q => absurd (by decide) q)
              refine lv_iconst (v := nI 0) hx hb dX3_nearest_136 (by decide) ?_
              refine z_icmp_ne (tgt := 144) hx hb dX3_nearest_137 (by decide) (by omega) (by omega) (fun c_137 => ?_) (fun c_137 => ?_)
              · refine lv_iinc (v := nI (i + 1)) (lv' := [(7, .int (nI (i + 1))), (8, .int (nI 0)), (0, .ref y), (1, .int a), (2, .int b), (3, .int (nI dn)), (4, .int (nI sm)), (5, .int (nI an)), (6, .int (nI bst))]) hx hb dX3_nearest_144 hl (k := 8) rfl (nI_add i 1) (by decide) rfl (fun ls hl => ?_)
                refine lv_goto (tgt := 6) hx hb dX3_nearest_147 (by decide) ?_
                exact ih ((i + 1, some bst)) _ ⟨lv_sub hl [2, 3, 4, 5, 6, 7, 8, 0] rfl, by omega, hns.stay (Or.inl ⟨by omega, Int64.le_of_lt ho2⟩)⟩ (by first | omega | (dsimp only; omega))
              · refine lv_iload hx hb dX3_nearest_140 (lv_at hl 8 rfl) ?_
                refine lv_istore (lv' := [(6, .int (nI i)), (8, .int (nI 0)), (0, .ref y), (1, .int a), (2, .int b), (3, .int (nI dn)), (4, .int (nI sm)), (5, .int (nI an)), (7, .int (nI i))]) hx hb dX3_nearest_142 hl (by decide) rfl (fun ls hl => ?_)
                refine lv_iinc (v := nI (i + 1)) (lv' := [(7, .int (nI (i + 1))), (6, .int (nI i)), (8, .int (nI 0)), (0, .ref y), (1, .int a), (2, .int b), (3, .int (nI dn)), (4, .int (nI sm)), (5, .int (nI an))]) hx hb dX3_nearest_144 hl (k := 8) rfl (nI_add i 1) (by decide) rfl (fun ls hl => ?_)
                refine lv_goto (tgt := 6) hx hb dX3_nearest_147 (by decide) ?_
                exact ih ((i + 1, some i)) _ ⟨lv_sub hl [3, 4, 5, 6, 7, 8, 1, 0] rfl, by omega, hns.take hok (Or.inr ⟨by omega, Int64.le_of_lt ho2⟩)⟩ (by first | omega | (dsimp only; omega))
            · refine lv_if_le (tgt := 136) hx hb dX3_nearest_129 (by decide) (fun q => absurd q (by decide)) (fun _ => ?_)
              refine lv_iconst (v := nI 1) hx hb dX3_nearest_132 (by decide) ?_
              refine lv_goto (tgt := 137) hx hb dX3_nearest_133 (by decide) ?_
              refine z_icmp_ne (tgt := 144) hx hb dX3_nearest_137 (by decide) (by omega) (by omega) (fun c_137 => ?_) (fun c_137 => ?_)
              · refine lv_iinc (v := nI (i + 1)) (lv' := [(7, .int (nI (i + 1))), (8, .int (nI 0)), (0, .ref y), (1, .int a), (2, .int b), (3, .int (nI dn)), (4, .int (nI sm)), (5, .int (nI an)), (6, .int (nI bst))]) hx hb dX3_nearest_144 hl (k := 8) rfl (nI_add i 1) (by decide) rfl (fun ls hl => ?_)
                refine lv_goto (tgt := 6) hx hb dX3_nearest_147 (by decide) ?_
                exact ih ((i + 1, some bst)) _ ⟨lv_sub hl [2, 3, 4, 5, 6, 7, 8, 0] rfl, by omega, hns.stay (Or.inr ⟨by omega, Int64.le_of_lt ho2⟩)⟩ (by first | omega | (dsimp only; omega))
              · refine lv_iload hx hb dX3_nearest_140 (lv_at hl 8 rfl) ?_
                refine lv_istore (lv' := [(6, .int (nI i)), (8, .int (nI 0)), (0, .ref y), (1, .int a), (2, .int b), (3, .int (nI dn)), (4, .int (nI sm)), (5, .int (nI an)), (7, .int (nI i))]) hx hb dX3_nearest_142 hl (by decide) rfl (fun ls hl => ?_)
                refine lv_iinc (v := nI (i + 1)) (lv' := [(7, .int (nI (i + 1))), (6, .int (nI i)), (8, .int (nI 0)), (0, .ref y), (1, .int a), (2, .int b), (3, .int (nI dn)), (4, .int (nI sm)), (5, .int (nI an))]) hx hb dX3_nearest_144 hl (k := 8) rfl (nI_add i 1) (by decide) rfl (fun ls hl => ?_)
                refine lv_goto (tgt := 6) hx hb dX3_nearest_147 (by decide) ?_
                exact ih ((i + 1, some i)) _ ⟨lv_sub hl [3, 4, 5, 6, 7, 8, 1, 0] rfl, by omega, hns.take hok (Or.inl ⟨by omega, Int64.le_of_lt ho2⟩)⟩ (by first | omega | (dsimp only; omega))
            · refine lv_if_le (tgt := 136) hx hb dX3_nearest_129 (by decide) (fun _ => ?_) (fun q => absurd (by decide) q)
              refine lv_iconst (v := nI 0) hx hb dX3_nearest_136 (by decide) ?_
              refine z_icmp_ne (tgt := 144) hx hb dX3_nearest_137 (by decide) (by omega) (by omega) (fun c_137 => ?_) (fun c_137 => ?_)
              · refine lv_iinc (v := nI (i + 1)) (lv' := [(7, .int (nI (i + 1))), (8, .int (nI 0)), (0, .ref y), (1, .int a), (2, .int b), (3, .int (nI dn)), (4, .int (nI sm)), (5, .int (nI an)), (6, .int (nI bst))]) hx hb dX3_nearest_144 hl (k := 8) rfl (nI_add i 1) (by decide) rfl (fun ls hl => ?_)
                refine lv_goto (tgt := 6) hx hb dX3_nearest_147 (by decide) ?_
                exact ih ((i + 1, some bst)) _ ⟨lv_sub hl [2, 3, 4, 5, 6, 7, 8, 0] rfl, by omega, hns.stay (Or.inl ⟨by omega, by rw [ho2]; exact Int64.le_refl _⟩)⟩ (by first | omega | (dsimp only; omega))
              · refine lv_iload hx hb dX3_nearest_140 (lv_at hl 8 rfl) ?_
                refine lv_istore (lv' := [(6, .int (nI i)), (8, .int (nI 0)), (0, .ref y), (1, .int a), (2, .int b), (3, .int (nI dn)), (4, .int (nI sm)), (5, .int (nI an)), (7, .int (nI i))]) hx hb dX3_nearest_142 hl (by decide) rfl (fun ls hl => ?_)
                refine lv_iinc (v := nI (i + 1)) (lv' := [(7, .int (nI (i + 1))), (6, .int (nI i)), (8, .int (nI 0)), (0, .ref y), (1, .int a), (2, .int b), (3, .int (nI dn)), (4, .int (nI sm)), (5, .int (nI an))]) hx hb dX3_nearest_144 hl (k := 8) rfl (nI_add i 1) (by decide) rfl (fun ls hl => ?_)
                refine lv_goto (tgt := 6) hx hb dX3_nearest_147 (by decide) ?_
                exact ih ((i + 1, some i)) _ ⟨lv_sub hl [3, 4, 5, 6, 7, 8, 1, 0] rfl, by omega, hns.take hok (Or.inr ⟨by omega, by rw [ho2]; exact Int64.le_refl _⟩)⟩ (by first | omega | (dsimp only; omega))
        · refine lv_goto (tgt := 144) hx hb dX3_nearest_60 (by decide) ?_
          refine lv_iinc (v := nI (i + 1)) (lv' := [(7, .int (nI (i + 1))), (8, .int (nI 0)), (0, .ref y), (1, .int a), (2, .int b), (3, .int (nI dn)), (4, .int (nI sm)), (5, .int (nI an)), (6, .int (oI o))]) hx hb dX3_nearest_144 hl (k := 8) rfl (nI_add i 1) (by decide) rfl (fun ls hl => ?_)
          refine lv_goto (tgt := 6) hx hb dX3_nearest_147 (by decide) ?_
          exact ih ((i + 1, o)) _ ⟨lv_sub hl [2, 3, 4, 5, 6, 7, 8, 0] rfl, by omega, hns.skip (fun q => q.elim (fun z => absurd c_47 (by omega)) (fun z => z.elim (fun y => absurd c_57 (by omega)) (fun y => y.elim (fun x => absurd x.2 (by rw [ho1]; exact Int64.lt_irrefl)) (fun x => absurd x.2 (by rw [ho1]; exact Int64.lt_irrefl)))))⟩ (by first | omega | (dsimp only; omega))

set_option maxHeartbeats 4000000 in
set_option maxRecDepth 100000 in
theorem c_X3_near (l : Launch) (D : va_G) (cI cJ : ClassId) (y r0 r1 r2 r3 r4 r5 wd tp wm tm : Nat) (a0 b0 v0 cap n : Nat) (fa fb : Nat → Int32) (fv : Nat → Int64) (hn : n ≤ cap) (hc : cap ≤ 1100) (h16 : 16 ≤ cap) (a b : Int32) (dn sm : Nat) (hdn : dn ≤ 1) (hsm : sm ≤ 1) : Met l yX3_near wsX3_near { frames := 2, cells := 0, slots := 0, locals := 51 } (va_Pc [.ref y, .int a, .int b, .int (nI dn), .int (nI sm)] (rP D cI cJ [(y, .inr (3, [.ref r0, .ref r1, .ref r2, .ref r3, .ref r4, .ref r5, .ref wd, .ref tp, .int (nI wm), .int (nI tm)])), (r2, .inr (2, [.ref a0, .ref b0, .ref v0, .int (nI n)])), (a0, .inl (cI, cap, .inl fa)), (b0, .inl (cI, cap, .inl fb)), (v0, .inl (cJ, cap, .inr (.inl fv)))])) (vp_Sl (fun r => (NsI (fun j => pk (fa j) (fb j)) (okN (pk a b) dn sm 0) dn n none ∧ r = NO) ∨ ∃ k, NsI (fun j => pk (fa j) (fb j)) (okN (pk a b) dn sm 0) dn n (some k) ∧ r = (fa k).toInt64 * 2147483648 + (fb k).toInt64)) 0 0 (fun _ => False) := by
  refine Met.ofW (cc := cX3_near) (maxL := 6) (ret := (some .long)) (by decide) rfl ?_
  intro p e s m args below meth c s₁ B hml hv
  obtain ⟨rfl, hP, hK⟩ := hv
  have hx := B.exec
  have hb := B.bytes
  have hr := B.returns
  have hts := atoms_spec (ws := wsX3_near) B.pre
  have hown : s.vm.findClass RX3 = some m.cls := findClass_of_methodNamed B.named
  have hlocks := B.notSynchronized
  have lk0 := hts (.constantLong RX3 54 (4611686018427387904)) (by decide +kernel)
  have lk1 := hts (.fieldLink RX3 19 "KeyHallModel" "rising" "LKeyHallModel$Rows;") (by decide +kernel)
  have lk2 : ∀ w ∈ wsX30, w ∈ wsX3_near := by decide +kernel
  have lk3 := hts (.fieldLink RX3 66 "KeyHallModel$Rows" "a" "[I") (by decide +kernel)
  have lk4 : ∀ w ∈ wsX20, w ∈ wsX3_near := by decide +kernel
  have lk5 := hts (.constantLong RX3 80 (2147483648)) (by decide +kernel)
  have lk6 := hts (.fieldLink RX3 69 "KeyHallModel$Rows" "b" "[I") (by decide +kernel)
  have hl := lv_entry ([.ref y, .int a, .int b, .int (nI dn), .int (nI sm)]) (n := 6) (Nat.le_of_ble_eq_true rfl)
  rw [lg_entry_eq]
  generalize (lg_sl ([.ref y, .int a, .int b, .int (nI dn), .int (nI sm)]) ++ List.replicate (6 - (lg_sl ([.ref y, .int a, .int b, .int (nI dn), .int (nI sm)])).length) Slot.unset).toArray = ls at hl ⊢
  have hl : lv_has ls 6 [(0, .ref y), (1, .int a), (2, .int b), (3, .int (nI dn)), (4, .int (nI sm))] := hl
  refine lv_aload_n hx hb dX3_near_0 rfl (lv_at hl 0 rfl) ?_
  refine lv_iload_n hx hb dX3_near_1 rfl (lv_at hl 1 rfl) ?_
  refine lv_iload_n hx hb dX3_near_2 rfl (lv_at hl 2 rfl) ?_
  refine lv_iload_n hx hb dX3_near_3 rfl (lv_at hl 3 rfl) ?_
  refine lv_iload hx hb dX3_near_4 (lv_at hl 4 rfl) ?_
  refine lv_iconst (v := nI 0) hx hb dX3_near_6 (by decide) ?_
  refine vp_callSi (va_Run.run (va_runV (As := [.int a, .int b, .int (nI dn), .int (nI sm), .int (nI 0)]) (rest := []) ⟨hx, hb, hml, hown, hts⟩ (c_X3_nearest l D cI cJ y r0 r1 r2 r3 r4 r5 wd tp wm tm a0 b0 v0 cap n fa fb fv (by omega) (by omega) (by omega) a b dn sm 0 (by omega) (by omega) (by omega)) (cwV 5 hts gX3_near_X3_nearest rfl rfl rfl (by decide +kernel) ⟨Nat.le_of_ble_eq_true rfl, Nat.le_of_ble_eq_true rfl⟩) (z_preV hK hP [0, 1, 2, 3, 4] rfl 3 0 rfl rfl) rfl rfl hl.1 rfl (lv_room (Nat.le_of_ble_eq_true rfl)) dX3_near_7 ⟨Nat.zero_le _, Nat.zero_le _⟩)) (fun r_1 hr_1 => ?_)
  obtain ⟨o, rfl, hns⟩ := hr_1
  rcases o with _ | bst
  · refine z_topi (y := (-1)) rfl ?_
    refine lv_istore (lv' := [(5, .int (-1)), (0, .ref y), (1, .int a), (2, .int b), (3, .int (nI dn)), (4, .int (nI sm))]) hx hb dX3_near_10 hl (by decide) rfl (fun ls hl => ?_)
    refine lv_iload hx hb dX3_near_12 (lv_at hl 0 rfl) ?_
    refine lv_if_ge (tgt := 23) hx hb dX3_near_14 (by decide) (fun q => absurd q (by decide)) (fun _ => ?_)
    refine lv_ldc2 hx hb hown lk0 dX3_near_17 ?_
    refine lv_goto (tgt := 50) hx hb dX3_near_20 (by decide) ?_
    exact W.lret (v := 4611686018427387904) hx hb hr (fun t ht hW => ⟨4611686018427387904, rfl, Or.inl ⟨hns, rfl⟩, ht⟩) (fun _ h => nomatch h) dX3_near_50
  · refine z_topi (y := nI bst) rfl ?_
    have hbl : bst < n := hns.1
    refine lv_istore (lv' := [(5, .int (nI bst)), (0, .ref y), (1, .int a), (2, .int b), (3, .int (nI dn)), (4, .int (nI sm))]) hx hb dX3_near_10 hl (by decide) rfl (fun ls hl => ?_)
    refine lv_iload hx hb dX3_near_12 (lv_at hl 0 rfl) ?_
    refine z_if_ge (tgt := 23) hx hb dX3_near_14 (by decide) (by omega) ?_
    refine lv_aload_n hx hb dX3_near_23 rfl (lv_at hl 1 rfl) ?_
    refine va_get (D := D) (ci := 3) (v := .ref r2) (C := RX3) (T := TX3) (N := 10) hx hb hts lk2 hown hK hP 0 rfl rfl 2 (by decide) lk1 (fun _ h9 => h9) rfl dX3_near_24 ?_
    refine va_get (D := D) (ci := 2) (v := .ref a0) (C := RX2) (T := TX2) (N := 4) hx hb hts lk4 hown hK hP 1 rfl rfl 0 (by decide) lk3 (fun _ h9 => h9) rfl dX3_near_27 ?_
    refine lv_iload hx hb dX3_near_30 (lv_at hl 0 rfl) ?_
    refine z_iald hx hb hK hP 2 rfl (j := bst) (by omega) (by omega) dX3_near_32 ?_
    refine lv_i2l (v := (fa bst).toInt64) hx hb dX3_near_33 rfl ?_
    refine lv_ldc2 hx hb hown lk5 dX3_near_34 ?_
    refine lv_lmul hx hb dX3_near_37 ?_
    refine lv_aload_n hx hb dX3_near_38 rfl (lv_at hl 1 rfl) ?_
    refine va_get (D := D) (ci := 3) (v := .ref r2) (C := RX3) (T := TX3) (N := 10) hx hb hts lk2 hown hK hP 0 rfl rfl 2 (by decide) lk1 (fun _ h9 => h9) rfl dX3_near_39 ?_
    refine va_get (D := D) (ci := 2) (v := .ref b0) (C := RX2) (T := TX2) (N := 4) hx hb hts lk4 hown hK hP 1 rfl rfl 1 (by decide) lk6 (fun _ h9 => h9) rfl dX3_near_42 ?_
    refine lv_iload hx hb dX3_near_45 (lv_at hl 0 rfl) ?_
    refine z_iald hx hb hK hP 3 rfl (j := bst) (by omega) (by omega) dX3_near_47 ?_
    refine lv_i2l (v := (fb bst).toInt64) hx hb dX3_near_48 rfl ?_
    refine lv_ladd hx hb dX3_near_49 ?_
    exact W.lret (v := (((fa bst).toInt64) * 2147483648) + ((fb bst).toInt64)) hx hb hr (fun t ht hW => ⟨(((fa bst).toInt64) * 2147483648) + ((fb bst).toInt64), rfl, Or.inr ⟨bst, hns, rfl⟩, ht⟩) (fun _ h => nomatch h) dX3_near_50

set_option maxHeartbeats 4000000 in
set_option maxRecDepth 100000 in
theorem c_X3_poll (l : Launch) (D : va_G) (cI cJ : ClassId) (y r0 r1 r2 r3 r4 r5 wd tp wm tm : Nat) (a0 b0 v0 cap n : Nat) (fa fb : Nat → Int32) (fv : Nat → Int64) (hn : n ≤ cap) (hc : cap ≤ 1100) (h16 : 16 ≤ cap) (la : Nat) (hla : la ≤ 1) (sz : Nat) : Met l yX3_poll wsX3_poll { frames := 2, cells := 0, slots := 0, locals := 51 } (va_Pc [.ref y, .int (nI la)] (wP D cI cJ [(y, .inr (3, [.ref r0, .ref r1, .ref r2, .ref r3, .ref r4, .ref r5, .ref wd, .ref tp, .int (nI wm), .int (nI tm)])), (r2, .inr (2, [.ref a0, .ref b0, .ref v0, .int (nI n)])), (a0, .inl (cI, cap, .inl fa)), (b0, .inl (cI, cap, .inl fb)), (v0, .inl (cJ, cap, .inr (.inl fv)))] sz)) (va_Ql (fun r (u : Nat × Nat × Nat × Nat × Nat × (Nat → Int32) × (Nat → Int32) × (Nat → Int64)) => match u with | (a', b', v', cap', n', fa', fb', fv') => ROK n' cap' ∧ ((NsI (fun j => pk (fa j) (fb j)) (okN (pk (nI 0) (nI 0)) la 1 1) la n none ∧ r = NO ∧ (rl n' fa' fb' fv') = (rl n fa fb fv)) ∨ ∃ k, NsI (fun j => pk (fa j) (fb j)) (okN (pk (nI 0) (nI 0)) la 1 1) la n (some k) ∧ r = fv k ∧ (rl n' fa' fb' fv') = (rl n fa fb fv).eraseIdx k)) (wB D cI cJ (va_A [(y, .inr (3, [.ref r0, .ref r1, .ref r2, .ref r3, .ref r4, .ref r5, .ref wd, .ref tp, .int (nI wm), .int (nI tm)])), (r2, .inr (2, [.ref a0, .ref b0, .ref v0, .int (nI n)])), (a0, .inl (cI, cap, .inl fa)), (b0, .inl (cI, cap, .inl fb)), (v0, .inl (cJ, cap, .inr (.inl fv)))] sz) (fun (a', b', v', cap', n', fa', fb', fv') => [(y, .inr (3, [.ref r0, .ref r1, .ref r2, .ref r3, .ref r4, .ref r5, .ref wd, .ref tp, .int (nI wm), .int (nI tm)])), (r2, .inr (2, [.ref a', .ref b', .ref v', .int (nI n')])), (a', .inl (cI, cap', .inl fa')), (b', .inl (cI, cap', .inl fb')), (v', .inl (cJ, cap', .inr (.inl fv')))])) (va_A [(y, .inr (3, [.ref r0, .ref r1, .ref r2, .ref r3, .ref r4, .ref r5, .ref wd, .ref tp, .int (nI wm), .int (nI tm)])), (r2, .inr (2, [.ref a0, .ref b0, .ref v0, .int (nI n)])), (a0, .inl (cI, cap, .inl fa)), (b0, .inl (cI, cap, .inl fb)), (v0, .inl (cJ, cap, .inr (.inl fv)))] sz)) 0 0 (va_A [(y, .inr (3, [.ref r0, .ref r1, .ref r2, .ref r3, .ref r4, .ref r5, .ref wd, .ref tp, .int (nI wm), .int (nI tm)])), (r2, .inr (2, [.ref a0, .ref b0, .ref v0, .int (nI n)])), (a0, .inl (cI, cap, .inl fa)), (b0, .inl (cI, cap, .inl fb)), (v0, .inl (cJ, cap, .inr (.inl fv)))] sz) := by
  refine Met.ofW (cc := cX3_poll) (maxL := 5) (ret := (some .long)) (by decide) rfl ?_
  intro p e s m args below meth c s₁ B hml hv
  obtain ⟨rfl, hsz, hP, hK, hD0⟩ := hv
  have hx := B.exec
  have hb := B.bytes
  have hr := B.returns
  have hts := atoms_spec (ws := wsX3_poll) B.pre
  have hown : s.vm.findClass RX3 = some m.cls := findClass_of_methodNamed B.named
  have hlocks := B.notSynchronized
  have lk0 := hts (.fieldLink RX3 19 "KeyHallModel" "rising" "LKeyHallModel$Rows;") (by decide +kernel)
  have lk1 : ∀ w ∈ wsX30, w ∈ wsX3_poll := by decide +kernel
  subst hsz
  have hD := hD0.self (sz := s.heap.size)
  generalize hAe : va_A [(y, .inr (3, [.ref r0, .ref r1, .ref r2, .ref r3, .ref r4, .ref r5, .ref wd, .ref tp, .int (nI wm), .int (nI tm)])), (r2, .inr (2, [.ref a0, .ref b0, .ref v0, .int (nI n)])), (a0, .inl (cI, cap, .inl fa)), (b0, .inl (cI, cap, .inl fb)), (v0, .inl (cJ, cap, .inr (.inl fv)))] s.heap.size = A at hD ⊢
  have hA : ∀ q : Nat, s.heap.size ≤ q → A q := fun q h => by rw [← hAe]; exact Or.inr h
  have hS : va_S A s.heap s.heap [] := va_S.rf
  have hP : va_P D vwCl [(y, .inr (3, [.ref r0, .ref r1, .ref r2, .ref r3, .ref r4, .ref r5, .ref wd, .ref tp, .int (nI wm), .int (nI tm)])), (r2, .inr (2, [.ref a0, .ref b0, .ref v0, .int (nI n)])), (a0, .inl (cI, cap, .inl fa)), (b0, .inl (cI, cap, .inl fb)), (v0, .inl (cJ, cap, .inr (.inl fv)))] s.heap := hP
  have hl := lv_entry ([.ref y, .int (nI la)]) (n := 5) (Nat.le_of_ble_eq_true rfl)
  rw [lg_entry_eq]
  generalize (lg_sl ([.ref y, .int (nI la)]) ++ List.replicate (5 - (lg_sl ([.ref y, .int (nI la)])).length) Slot.unset).toArray = ls at hl ⊢
  have hl : lv_has ls 5 [(0, .ref y), (1, .int (nI la))] := hl
  refine lv_aload_n hx hb dX3_poll_0 rfl (lv_at hl 0 rfl) ?_
  refine lv_iconst (v := nI 0) hx hb dX3_poll_1 (by decide) ?_
  refine lv_iconst (v := nI 0) hx hb dX3_poll_2 (by decide) ?_
  refine lv_iload_n hx hb dX3_poll_3 rfl (lv_at hl 1 rfl) ?_
  refine lv_iconst (v := nI 1) hx hb dX3_poll_4 (by decide) ?_
  refine lv_iconst (v := nI 1) hx hb dX3_poll_5 (by decide) ?_
  refine vp_callSi (va_Run.run (va_runV (As := [.int (nI 0), .int (nI 0), .int (nI la), .int (nI 1), .int (nI 1)]) (rest := []) ⟨hx, hb, hml, hown, hts⟩ (c_X3_nearest l D cI cJ y r0 r1 r2 r3 r4 r5 wd tp wm tm a0 b0 v0 cap n fa fb fv (by omega) (by omega) (by omega) (nI 0) (nI 0) la 1 1 (by omega) (by omega) (by omega)) (cwV 5 hts gX3_poll_X3_nearest rfl rfl rfl (by decide +kernel) ⟨Nat.le_of_ble_eq_true rfl, Nat.le_of_ble_eq_true rfl⟩) (z_preV hK hP [0, 1, 2, 3, 4] rfl 3 0 rfl rfl) rfl rfl hl.1 rfl (lv_room (Nat.le_of_ble_eq_true rfl)) dX3_poll_6 ⟨Nat.zero_le _, Nat.zero_le _⟩)) (fun r_1 hr_1 => ?_)
  obtain ⟨o, rfl, hns⟩ := hr_1
  rcases o with _ | bst
  · refine z_topi (y := (-1)) rfl ?_
    refine lv_istore_n (lv' := [(2, .int (-1)), (0, .ref y), (1, .int (nI la))]) hx hb dX3_poll_9 rfl hl (by decide) rfl (fun ls hl => ?_)
    refine lv_aload_n hx hb dX3_poll_10 rfl (lv_at hl 1 rfl) ?_
    refine va_get (D := D) (ci := 3) (v := .ref r2) (C := RX3) (T := TX3) (N := 10) hx hb hts lk1 hown hK hP 0 rfl rfl 2 (by decide) lk0 (fun _ h9 => h9) rfl dX3_poll_11 ?_
    refine lv_iload_n hx hb dX3_poll_14 rfl (lv_at hl 0 rfl) ?_
    refine vp_callSl (va_Run.run (va_runS (As := [.ref r2, .int (-1)]) (rest := []) ⟨hx, hb, hml, hown, hts⟩ (c_X3_told l D cI cJ r2 a0 b0 v0 cap n fa fb fv (-1) (by omega) (by omega) (Or.inl rfl)) (va_cwS 2 hts gX3_poll_X3_told rfl rfl rfl (by decide +kernel) ⟨Nat.le_of_ble_eq_true rfl, Nat.le_of_ble_eq_true rfl⟩) (z_preS hK hP [1, 2, 3, 4] rfl) rfl rfl hl.1 rfl (lv_room (Nat.le_of_ble_eq_true rfl)) dX3_poll_15 ⟨Nat.zero_le _, Nat.zero_le _⟩)) (fun r_2 hr_2 => ?_)
    replace hr_2 := hr_2.symm
    subst hr_2
    refine z_topl (y := NO) (tld_m) ?_
    refine lv_lstore_n (lv' := [(3, .long NO), (2, .int (-1)), (0, .ref y), (1, .int (nI la))]) hx hb dX3_poll_18 rfl hl (by decide) rfl (fun ls hl => ?_)
    refine lv_iload_n hx hb dX3_poll_19 rfl (lv_at hl 1 rfl) ?_
    refine lv_if_lt (tgt := 31) hx hb dX3_poll_20 (by decide) (fun _ => ?_) (fun q => absurd (by decide) q)
    refine lv_lload_n hx hb dX3_poll_31 rfl (lv_at hl 0 rfl) ?_
    exact W.lret (v := NO) hx hb hr (fun t ht hW => ⟨⟨NO, (a0, b0, v0, cap, n, fa, fb, fv), rfl, ⟨⟨hn, h16, hc⟩, Or.inl ⟨hns, rfl, rfl⟩⟩, by rw [ht]; exact hP, va_K.moved hW.alike hK, hD⟩, hS.F ht⟩) hS.2.2 dX3_poll_32
  · refine z_topi (y := nI bst) rfl ?_
    have hbl : bst < n := hns.1
    refine lv_istore_n (lv' := [(2, .int (nI bst)), (0, .ref y), (1, .int (nI la))]) hx hb dX3_poll_9 rfl hl (by decide) rfl (fun ls hl => ?_)
    refine lv_aload_n hx hb dX3_poll_10 rfl (lv_at hl 1 rfl) ?_
    refine va_get (D := D) (ci := 3) (v := .ref r2) (C := RX3) (T := TX3) (N := 10) hx hb hts lk1 hown hK hP 0 rfl rfl 2 (by decide) lk0 (fun _ h9 => h9) rfl dX3_poll_11 ?_
    refine lv_iload_n hx hb dX3_poll_14 rfl (lv_at hl 0 rfl) ?_
    refine vp_callSl (va_Run.run (va_runS (As := [.ref r2, .int (nI bst)]) (rest := []) ⟨hx, hb, hml, hown, hts⟩ (c_X3_told l D cI cJ r2 a0 b0 v0 cap n fa fb fv (nI bst) (by omega) (by omega) (Or.inr ⟨_, by omega, rfl⟩)) (va_cwS 2 hts gX3_poll_X3_told rfl rfl rfl (by decide +kernel) ⟨Nat.le_of_ble_eq_true rfl, Nat.le_of_ble_eq_true rfl⟩) (z_preS hK hP [1, 2, 3, 4] rfl) rfl rfl hl.1 rfl (lv_room (Nat.le_of_ble_eq_true rfl)) dX3_poll_15 ⟨Nat.zero_le _, Nat.zero_le _⟩)) (fun r_3 hr_3 => ?_)
    replace hr_3 := hr_3.symm
    subst hr_3
    refine z_topl (y := fv bst) (tld_N (by omega)) ?_
    refine lv_lstore_n (lv' := [(3, .long (fv bst)), (2, .int (nI bst)), (0, .ref y), (1, .int (nI la))]) hx hb dX3_poll_18 rfl hl (by decide) rfl (fun ls hl => ?_)
    refine lv_iload_n hx hb dX3_poll_19 rfl (lv_at hl 1 rfl) ?_
    refine z_if_lt (tgt := 31) hx hb dX3_poll_20 (by decide) (by omega) ?_
    refine lv_aload_n hx hb dX3_poll_23 rfl (lv_at hl 2 rfl) ?_
    refine va_get (D := D) (ci := 3) (v := .ref r2) (C := RX3) (T := TX3) (N := 10) hx hb hts lk1 hown hK hP 0 rfl rfl 2 (by decide) lk0 (fun _ h9 => h9) rfl dX3_poll_24 ?_
    refine lv_iload_n hx hb dX3_poll_27 rfl (lv_at hl 1 rfl) ?_
    have hFc := va_free (wc := [(r2, .inr (2, [.ref a0, .ref b0, .ref v0, .int (nI n)])), (a0, .inl (cI, cap, .inl fa)), (b0, .inl (cI, cap, .inl fb)), (v0, .inl (cJ, cap, .inr (.inl fv)))]) hD hS hA [1, 2, 3, 4] rfl
    refine va_callv (va_runV (As := [.int (nI bst)]) (rest := []) ⟨hx, hb, hml, hown, hts⟩ (c_X2_remove l D cI cJ r2 a0 b0 v0 cap n fa fb fv bst (by omega) (by omega) (by omega) s.heap.size) (cwV 1 hts gX3_poll_X2_remove rfl rfl rfl (by decide +kernel) ⟨Nat.le_of_ble_eq_true rfl, Nat.le_of_ble_eq_true rfl⟩) (z_preVw hK hP hD [1, 2, 3, 4] (by decide) rfl rfl 2 1 rfl rfl) rfl rfl hl.1 rfl (lv_room (Nat.le_of_ble_eq_true rfl)) dX3_poll_28 ⟨Nat.zero_le _, Nat.zero_le _⟩) hS (fun q _ h => hFc q h) hFc (fun u_5 t H1 locs ht hvm hr_4 hB hzz1 hkk1 hS => ?_)
    obtain ⟨hP1, hK1, hD1⟩ := hB
    rw [ht] at hP1
    try dsimp only at hr_4
    obtain ⟨hP, hD⟩ := va_join (wr := [(y, .inr (3, [.ref r0, .ref r1, .ref r2, .ref r3, .ref r4, .ref r5, .ref wd, .ref tp, .int (nI wm), .int (nI tm)]))]) (w1 := [(r2, .inr (2, [.ref a0, .ref b0, .ref v0, .int (nI (n - 1))])), (a0, .inl (cI, cap, .inl (shf fa bst (n - 1)))), (b0, .inl (cI, cap, .inl (shf fb bst (n - 1)))), (v0, .inl (cJ, cap, .inr (.inl (shf fv bst (n - 1)))))]) hP hD [1, 2, 3, 4] [0] rfl rfl (by decide) (by decide) hkk1 hFc hP1 hD1
    generalize H1 = H at hP hS ⊢
    have hP : va_P D vwCl [(y, .inr (3, [.ref r0, .ref r1, .ref r2, .ref r3, .ref r4, .ref r5, .ref wd, .ref tp, .int (nI wm), .int (nI tm)])), (r2, .inr (2, [.ref a0, .ref b0, .ref v0, .int (nI (n - 1))])), (a0, .inl (cI, cap, .inl (shf fa bst (n - 1)))), (b0, .inl (cI, cap, .inl (shf fb bst (n - 1)))), (v0, .inl (cJ, cap, .inr (.inl (shf fv bst (n - 1)))))] H := hP.sub [0, 1, 2, 3, 4] rfl
    have hD : va_D A [(y, .inr (3, [.ref r0, .ref r1, .ref r2, .ref r3, .ref r4, .ref r5, .ref wd, .ref tp, .int (nI wm), .int (nI tm)])), (r2, .inr (2, [.ref a0, .ref b0, .ref v0, .int (nI (n - 1))])), (a0, .inl (cI, cap, .inl (shf fa bst (n - 1)))), (b0, .inl (cI, cap, .inl (shf fb bst (n - 1)))), (v0, .inl (cJ, cap, .inr (.inl (shf fv bst (n - 1)))))] := hD.sub [0, 1, 2, 3, 4] (by decide) rfl
    refine lv_lload_n hx hb dX3_poll_31 rfl (lv_at hl 0 rfl) ?_
    exact W.lret (v := fv bst) hx hb hr (fun t ht hW => ⟨⟨fv bst, (a0, b0, v0, cap, n - 1, shf fa bst (n - 1), shf fb bst (n - 1), shf fv bst (n - 1)), rfl, ⟨⟨by omega, h16, hc⟩, Or.inr ⟨bst, hns, rfl, rl_era hbl⟩⟩, by rw [ht]; exact hP, va_K.moved hW.alike hK, hD⟩, hS.F ht⟩) hS.2.2 dX3_poll_32

set_option maxHeartbeats 4000000 in
set_option maxRecDepth 100000 in
theorem c_X3_between (l : Launch) (D : va_G) (cI cJ : ClassId) (y r0 r1 r2 r3 r4 r5 wd tp wm tm : Nat) (a0 b0 v0 cap n : Nat) (fa fb : Nat → Int32) (fv : Nat → Int64) (hn : n ≤ cap) (hc : cap ≤ 1100) (h16 : 16 ≤ cap) (a b c1 d : Int32) : Met l yX3_between wsX3_between { frames := 1, cells := 0, slots := 0, locals := 23 } (va_Pc [.ref y, .int a, .int b, .int c1, .int d] (rP D cI cJ [(y, .inr (3, [.ref r0, .ref r1, .ref r2, .ref r3, .ref r4, .ref r5, .ref wd, .ref tp, .int (nI wm), .int (nI tm)])), (r2, .inr (2, [.ref a0, .ref b0, .ref v0, .int (nI n)])), (a0, .inl (cI, cap, .inl fa)), (b0, .inl (cI, cap, .inl fb)), (v0, .inl (cJ, cap, .inr (.inl fv)))])) (vp_Si (fun r => (pk c1 d < pk a b ∧ r = (-1)) ∨ (¬ pk c1 d < pk a b ∧ r = nI (cntF (fun j => pB (¬ pk (fa j) (fb j) < pk a b ∧ pk (fa j) (fb j) < pk c1 d)) n)))) 0 0 (fun _ => False) := by
  refine Met.ofW (cc := cX3_between) (maxL := 7) (ret := (some .int)) (by decide) rfl ?_
  intro p e s m args below meth c s₁ B hml hv
  obtain ⟨rfl, hP, hK⟩ := hv
  have hx := B.exec
  have hb := B.bytes
  have hr := B.returns
  have hts := atoms_spec (ws := wsX3_between) B.pre
  have hown : s.vm.findClass RX3 = some m.cls := findClass_of_methodNamed B.named
  have hlocks := B.notSynchronized
  have lk0 := hts (.fieldLink RX3 19 "KeyHallModel" "rising" "LKeyHallModel$Rows;") (by decide +kernel)
  have lk1 : ∀ w ∈ wsX30, w ∈ wsX3_between := by decide +kernel
  have lk2 := hts (.fieldLink RX3 46 "KeyHallModel$Rows" "many" "I") (by decide +kernel)
  have lk3 : ∀ w ∈ wsX20, w ∈ wsX3_between := by decide +kernel
  have lk4 := hts (.fieldLink RX3 66 "KeyHallModel$Rows" "a" "[I") (by decide +kernel)
  have lk5 := hts (.fieldLink RX3 69 "KeyHallModel$Rows" "b" "[I") (by decide +kernel)
  have hl := lv_entry ([.ref y, .int a, .int b, .int c1, .int d]) (n := 7) (Nat.le_of_ble_eq_true rfl)
  rw [lg_entry_eq]
  generalize (lg_sl ([.ref y, .int a, .int b, .int c1, .int d]) ++ List.replicate (7 - (lg_sl ([.ref y, .int a, .int b, .int c1, .int d])).length) Slot.unset).toArray = ls at hl ⊢
  have hl : lv_has ls 7 [(0, .ref y), (1, .int a), (2, .int b), (3, .int c1), (4, .int d)] := hl
  refine lv_iload_n hx hb dX3_between_0 rfl (lv_at hl 3 rfl) ?_
  refine lv_iload hx hb dX3_between_1 (lv_at hl 4 rfl) ?_
  refine lv_iload_n hx hb dX3_between_3 rfl (lv_at hl 1 rfl) ?_
  refine lv_iload_n hx hb dX3_between_4 rfl (lv_at hl 2 rfl) ?_
  refine vp_callSi (va_Run.run (va_runS (As := [.int c1, .int d, .int a, .int b]) (rest := []) ⟨hx, hb, hml, hown, hts⟩ (c_X3_order l c1 d a b) (va_cwS 4 hts gX3_between_X3_order rfl rfl rfl (by decide +kernel) ⟨Nat.le_of_ble_eq_true rfl, Nat.le_of_ble_eq_true rfl⟩) z_preT rfl rfl hl.1 rfl (lv_room (Nat.le_of_ble_eq_true rfl)) dX3_between_5 ⟨Nat.zero_le _, Nat.zero_le _⟩)) (fun r_1 hr_1 => ?_)
  rcases hr_1 with ⟨ho0, rfl⟩ | ⟨ho0, rfl⟩ | ⟨ho0, rfl⟩
  · refine lv_if_ge (tgt := 13) hx hb dX3_between_8 (by decide) (fun q => absurd q (by decide)) (fun _ => ?_)
    refine lv_iconst (v := (-1)) hx hb dX3_between_11 (by decide) ?_
    exact W.iret (v := (-1)) hx hb hr (fun t ht hW => ⟨(-1), rfl, Or.inl ⟨ho0, rfl⟩, ht⟩) (fun _ h => nomatch h) dX3_between_12
  · refine lv_if_ge (tgt := 13) hx hb dX3_between_8 (by decide) (fun _ => ?_) (fun q => absurd (by decide) q)
    refine lv_iconst (v := nI 0) hx hb dX3_between_13 (by decide) ?_
    refine lv_istore (lv' := [(5, .int (nI 0)), (0, .ref y), (1, .int a), (2, .int b), (3, .int c1), (4, .int d)]) hx hb dX3_between_14 hl (by decide) rfl (fun ls hl => ?_)
    refine lv_iconst (v := nI 0) hx hb dX3_between_16 (by decide) ?_
    refine lv_istore (lv' := [(6, .int (nI 0)), (5, .int (nI 0)), (0, .ref y), (1, .int a), (2, .int b), (3, .int c1), (4, .int d)]) hx hb dX3_between_17 hl (by decide) rfl (fun ls hl => ?_)
    refine z_loop (σ := Nat) (fun i => n - i) (fun i ls => lv_has ls 7 [(0, .ref y), (1, .int a), (2, .int b), (3, .int c1), (4, .int d), (5, .int (nI (cntF (fun j => pB (¬ pk (fa j) (fb j) < pk a b ∧ pk (fa j) (fb j) < pk c1 d)) i))), (6, .int (nI i))] ∧ (i ≤ n)) ?_ (0) _ ⟨lv_sub hl [2, 3, 4, 5, 6, 1, 0] rfl, Nat.zero_le _⟩
    rintro i ls ⟨hl, hi⟩ ih
    have hl : lv_has ls 7 [(0, .ref y), (1, .int a), (2, .int b), (3, .int c1), (4, .int d), (5, .int (nI (cntF (fun j => pB (¬ pk (fa j) (fb j) < pk a b ∧ pk (fa j) (fb j) < pk c1 d)) i))), (6, .int (nI i))] := hl
    have hcl := cntF_le (fun j => pB (¬ pk (fa j) (fb j) < pk a b ∧ pk (fa j) (fb j) < pk c1 d)) i
    refine lv_iload hx hb dX3_between_19 (lv_at hl 6 rfl) ?_
    refine lv_aload_n hx hb dX3_between_21 rfl (lv_at hl 0 rfl) ?_
    refine va_get (D := D) (ci := 3) (v := .ref r2) (C := RX3) (T := TX3) (N := 10) hx hb hts lk1 hown hK hP 0 rfl rfl 2 (by decide) lk0 (fun _ h9 => h9) rfl dX3_between_22 ?_
    refine va_get (D := D) (ci := 2) (v := .int (nI n)) (C := RX2) (T := TX2) (N := 4) hx hb hts lk3 hown hK hP 1 rfl rfl 3 (by decide) lk2 (fun _ h9 => h9) rfl dX3_between_25 ?_
    refine z_icmp_ge (tgt := 97) hx hb dX3_between_28 (by decide) (by omega) (by omega) (fun c_28 => ?_) (fun c_28 => ?_)
    · refine lv_iload hx hb dX3_between_97 (lv_at hl 5 rfl) ?_
      exact W.iret (v := nI (cntF (fun j => pB (¬ pk (fa j) (fb j) < pk a b ∧ pk (fa j) (fb j) < pk c1 d)) i)) hx hb hr (fun t ht hW => ⟨nI (cntF (fun j => pB (¬ pk (fa j) (fb j) < pk a b ∧ pk (fa j) (fb j) < pk c1 d)) i), rfl, Or.inr ⟨Int64.lt_asymm ho0, by rw [Nat.le_antisymm hi c_28]⟩, ht⟩) (fun _ h => nomatch h) dX3_between_99
    · refine lv_aload_n hx hb dX3_between_31 rfl (lv_at hl 0 rfl) ?_
      refine va_get (D := D) (ci := 3) (v := .ref r2) (C := RX3) (T := TX3) (N := 10) hx hb hts lk1 hown hK hP 0 rfl rfl 2 (by decide) lk0 (fun _ h9 => h9) rfl dX3_between_32 ?_
      refine va_get (D := D) (ci := 2) (v := .ref a0) (C := RX2) (T := TX2) (N := 4) hx hb hts lk3 hown hK hP 1 rfl rfl 0 (by decide) lk4 (fun _ h9 => h9) rfl dX3_between_35 ?_
      refine lv_iload hx hb dX3_between_38 (lv_at hl 6 rfl) ?_
      refine z_iald hx hb hK hP 2 rfl (j := i) (by omega) (by omega) dX3_between_40 ?_
      refine lv_aload_n hx hb dX3_between_41 rfl (lv_at hl 0 rfl) ?_
      refine va_get (D := D) (ci := 3) (v := .ref r2) (C := RX3) (T := TX3) (N := 10) hx hb hts lk1 hown hK hP 0 rfl rfl 2 (by decide) lk0 (fun _ h9 => h9) rfl dX3_between_42 ?_
      refine va_get (D := D) (ci := 2) (v := .ref b0) (C := RX2) (T := TX2) (N := 4) hx hb hts lk3 hown hK hP 1 rfl rfl 1 (by decide) lk5 (fun _ h9 => h9) rfl dX3_between_45 ?_
      refine lv_iload hx hb dX3_between_48 (lv_at hl 6 rfl) ?_
      refine z_iald hx hb hK hP 3 rfl (j := i) (by omega) (by omega) dX3_between_50 ?_
      refine lv_iload_n hx hb dX3_between_51 rfl (lv_at hl 1 rfl) ?_
      refine lv_iload_n hx hb dX3_between_52 rfl (lv_at hl 2 rfl) ?_
      refine vp_callSi (va_Run.run (va_runS (As := [.int (fa i), .int (fb i), .int a, .int b]) (rest := []) ⟨hx, hb, hml, hown, hts⟩ (c_X3_order l (fa i) (fb i) a b) (va_cwS 4 hts gX3_between_X3_order rfl rfl rfl (by decide +kernel) ⟨Nat.le_of_ble_eq_true rfl, Nat.le_of_ble_eq_true rfl⟩) z_preT rfl rfl hl.1 rfl (lv_room (Nat.le_of_ble_eq_true rfl)) dX3_between_53 ⟨Nat.zero_le _, Nat.zero_le _⟩)) (fun r_2 hr_2 => ?_)
      rcases hr_2 with ⟨ho1, rfl⟩ | ⟨ho1, rfl⟩ | ⟨ho1, rfl⟩
      · refine lv_if_lt (tgt := 91) hx hb dX3_between_56 (by decide) (fun _ => ?_) (fun q => absurd (by decide) q)
        rw [← cntF_f (P := fun j => pB (¬ pk (fa j) (fb j) < pk a b ∧ pk (fa j) (fb j) < pk c1 d)) (pB_f (fun q => q.1 ho1))] at hl
        have hl : lv_has ls 7 [(0, .ref y), (1, .int a), (2, .int b), (3, .int c1), (4, .int d), (5, .int (nI (cntF (fun j => pB (¬ pk (fa j) (fb j) < pk a b ∧ pk (fa j) (fb j) < pk c1 d)) (i + 1)))), (6, .int (nI i))] := hl
        refine lv_iinc (v := nI (i + 1)) (lv' := [(6, .int (nI (i + 1))), (0, .ref y), (1, .int a), (2, .int b), (3, .int c1), (4, .int d), (5, .int (nI (cntF (fun j => pB (¬ pk (fa j) (fb j) < pk a b ∧ pk (fa j) (fb j) < pk c1 d)) (i + 1))))]) hx hb dX3_between_91 hl (k := 6) rfl (nI_add i 1) (by decide) rfl (fun ls hl => ?_)
        refine lv_goto (tgt := 19) hx hb dX3_between_94 (by decide) ?_
        exact ih (i + 1) _ ⟨lv_sub hl [1, 2, 3, 4, 5, 6, 0] rfl, by omega⟩ (by first | omega | (dsimp only; omega))
      · refine lv_if_lt (tgt := 91) hx hb dX3_between_56 (by decide) (fun q => absurd q (by decide)) (fun _ => ?_)
        refine lv_aload_n hx hb dX3_between_59 rfl (lv_at hl 0 rfl) ?_
        refine va_get (D := D) (ci := 3) (v := .ref r2) (C := RX3) (T := TX3) (N := 10) hx hb hts lk1 hown hK hP 0 rfl rfl 2 (by decide) lk0 (fun _ h9 => h9) rfl dX3_between_60 ?_
        refine va_get (D := D) (ci := 2) (v := .ref a0) (C := RX2) (T := TX2) (N := 4) hx hb hts lk3 hown hK hP 1 rfl rfl 0 (by decide) lk4 (fun _ h9 => h9) rfl dX3_between_63 ?_
        refine lv_iload hx hb dX3_between_66 (lv_at hl 6 rfl) ?_
        refine z_iald hx hb hK hP 2 rfl (j := i) (by omega) (by omega) dX3_between_68 ?_
        refine lv_aload_n hx hb dX3_between_69 rfl (lv_at hl 0 rfl) ?_
        refine va_get (D := D) (ci := 3) (v := .ref r2) (C := RX3) (T := TX3) (N := 10) hx hb hts lk1 hown hK hP 0 rfl rfl 2 (by decide) lk0 (fun _ h9 => h9) rfl dX3_between_70 ?_
        refine va_get (D := D) (ci := 2) (v := .ref b0) (C := RX2) (T := TX2) (N := 4) hx hb hts lk3 hown hK hP 1 rfl rfl 1 (by decide) lk5 (fun _ h9 => h9) rfl dX3_between_73 ?_
        refine lv_iload hx hb dX3_between_76 (lv_at hl 6 rfl) ?_
        refine z_iald hx hb hK hP 3 rfl (j := i) (by omega) (by omega) dX3_between_78 ?_
        refine lv_iload_n hx hb dX3_between_79 rfl (lv_at hl 3 rfl) ?_
        refine lv_iload hx hb dX3_between_80 (lv_at hl 4 rfl) ?_
        refine vp_callSi (va_Run.run (va_runS (As := [.int (fa i), .int (fb i), .int c1, .int d]) (rest := []) ⟨hx, hb, hml, hown, hts⟩ (c_X3_order l (fa i) (fb i) c1 d) (va_cwS 4 hts gX3_between_X3_order rfl rfl rfl (by decide +kernel) ⟨Nat.le_of_ble_eq_true rfl, Nat.le_of_ble_eq_true rfl⟩) z_preT rfl rfl hl.1 rfl (lv_room (Nat.le_of_ble_eq_true rfl)) dX3_between_82 ⟨Nat.zero_le _, Nat.zero_le _⟩)) (fun r_3 hr_3 => ?_)
        rcases hr_3 with ⟨ho2, rfl⟩ | ⟨ho2, rfl⟩ | ⟨ho2, rfl⟩
        · refine lv_if_ge (tgt := 91) hx hb dX3_between_85 (by decide) (fun q => absurd q (by decide)) (fun _ => ?_)
          refine lv_iinc (v := nI (cntF (fun j => pB (¬ pk (fa j) (fb j) < pk a b ∧ pk (fa j) (fb j) < pk c1 d)) i + 1)) (lv' := [(5, .int (nI (cntF (fun j => pB (¬ pk (fa j) (fb j) < pk a b ∧ pk (fa j) (fb j) < pk c1 d)) i + 1))), (0, .ref y), (1, .int a), (2, .int b), (3, .int c1), (4, .int d), (6, .int (nI i))]) hx hb dX3_between_88 hl (k := 5) rfl (nI_add (cntF (fun j => pB (¬ pk (fa j) (fb j) < pk a b ∧ pk (fa j) (fb j) < pk c1 d)) i) 1) (by decide) rfl (fun ls hl => ?_)
          rw [← cntF_t (P := fun j => pB (¬ pk (fa j) (fb j) < pk a b ∧ pk (fa j) (fb j) < pk c1 d)) (pB_t ⟨Int64.lt_asymm ho1, ho2⟩)] at hl
          have hl : lv_has ls 7 [(5, .int (nI (cntF (fun j => pB (¬ pk (fa j) (fb j) < pk a b ∧ pk (fa j) (fb j) < pk c1 d)) (i + 1)))), (0, .ref y), (1, .int a), (2, .int b), (3, .int c1), (4, .int d), (6, .int (nI i))] := hl
          refine lv_iinc (v := nI (i + 1)) (lv' := [(6, .int (nI (i + 1))), (5, .int (nI (cntF (fun j => pB (¬ pk (fa j) (fb j) < pk a b ∧ pk (fa j) (fb j) < pk c1 d)) (i + 1)))), (0, .ref y), (1, .int a), (2, .int b), (3, .int c1), (4, .int d)]) hx hb dX3_between_91 hl (k := 6) rfl (nI_add i 1) (by decide) rfl (fun ls hl => ?_)
          refine lv_goto (tgt := 19) hx hb dX3_between_94 (by decide) ?_
          exact ih (i + 1) _ ⟨lv_sub hl [2, 3, 4, 5, 6, 1, 0] rfl, by omega⟩ (by first | omega | (dsimp only; omega))
        · refine lv_if_ge (tgt := 91) hx hb dX3_between_85 (by decide) (fun _ => ?_) (fun q => absurd (by decide) q)
          rw [← cntF_f (P := fun j => pB (¬ pk (fa j) (fb j) < pk a b ∧ pk (fa j) (fb j) < pk c1 d)) (pB_f (fun q => absurd q.2 (Int64.lt_asymm ho2)))] at hl
          have hl : lv_has ls 7 [(0, .ref y), (1, .int a), (2, .int b), (3, .int c1), (4, .int d), (5, .int (nI (cntF (fun j => pB (¬ pk (fa j) (fb j) < pk a b ∧ pk (fa j) (fb j) < pk c1 d)) (i + 1)))), (6, .int (nI i))] := hl
          refine lv_iinc (v := nI (i + 1)) (lv' := [(6, .int (nI (i + 1))), (0, .ref y), (1, .int a), (2, .int b), (3, .int c1), (4, .int d), (5, .int (nI (cntF (fun j => pB (¬ pk (fa j) (fb j) < pk a b ∧ pk (fa j) (fb j) < pk c1 d)) (i + 1))))]) hx hb dX3_between_91 hl (k := 6) rfl (nI_add i 1) (by decide) rfl (fun ls hl => ?_)
          refine lv_goto (tgt := 19) hx hb dX3_between_94 (by decide) ?_
          exact ih (i + 1) _ ⟨lv_sub hl [1, 2, 3, 4, 5, 6, 0] rfl, by omega⟩ (by first | omega | (dsimp only; omega))
        · refine lv_if_ge (tgt := 91) hx hb dX3_between_85 (by decide) (fun _ => ?_) (fun q => absurd (by decide) q)
          rw [← cntF_f (P := fun j => pB (¬ pk (fa j) (fb j) < pk a b ∧ pk (fa j) (fb j) < pk c1 d)) (pB_f (fun q => absurd q.2 ((by rw [ho2]; exact Int64.lt_irrefl))))] at hl
          have hl : lv_has ls 7 [(0, .ref y), (1, .int a), (2, .int b), (3, .int c1), (4, .int d), (5, .int (nI (cntF (fun j => pB (¬ pk (fa j) (fb j) < pk a b ∧ pk (fa j) (fb j) < pk c1 d)) (i + 1)))), (6, .int (nI i))] := hl
          refine lv_iinc (v := nI (i + 1)) (lv' := [(6, .int (nI (i + 1))), (0, .ref y), (1, .int a), (2, .int b), (3, .int c1), (4, .int d), (5, .int (nI (cntF (fun j => pB (¬ pk (fa j) (fb j) < pk a b ∧ pk (fa j) (fb j) < pk c1 d)) (i + 1))))]) hx hb dX3_between_91 hl (k := 6) rfl (nI_add i 1) (by decide) rfl (fun ls hl => ?_)
          refine lv_goto (tgt := 19) hx hb dX3_between_94 (by decide) ?_
          exact ih (i + 1) _ ⟨lv_sub hl [1, 2, 3, 4, 5, 6, 0] rfl, by omega⟩ (by first | omega | (dsimp only; omega))
      · refine lv_if_lt (tgt := 91) hx hb dX3_between_56 (by decide) (fun q => absurd q (by decide)) (fun _ => ?_)
        refine lv_aload_n hx hb dX3_between_59 rfl (lv_at hl 0 rfl) ?_
        refine va_get (D := D) (ci := 3) (v := .ref r2) (C := RX3) (T := TX3) (N := 10) hx hb hts lk1 hown hK hP 0 rfl rfl 2 (by decide) lk0 (fun _ h9 => h9) rfl dX3_between_60 ?_
        refine va_get (D := D) (ci := 2) (v := .ref a0) (C := RX2) (T := TX2) (N := 4) hx hb hts lk3 hown hK hP 1 rfl rfl 0 (by decide) lk4 (fun _ h9 => h9) rfl dX3_between_63 ?_
        refine lv_iload hx hb dX3_between_66 (lv_at hl 6 rfl) ?_
        refine z_iald hx hb hK hP 2 rfl (j := i) (by omega) (by omega) dX3_between_68 ?_
        refine lv_aload_n hx hb dX3_between_69 rfl (lv_at hl 0 rfl) ?_
        refine va_get (D := D) (ci := 3) (v := .ref r2) (C := RX3) (T := TX3) (N := 10) hx hb hts lk1 hown hK hP 0 rfl rfl 2 (by decide) lk0 (fun _ h9 => h9) rfl dX3_between_70 ?_
        refine va_get (D := D) (ci := 2) (v := .ref b0) (C := RX2) (T := TX2) (N := 4) hx hb hts lk3 hown hK hP 1 rfl rfl 1 (by decide) lk5 (fun _ h9 => h9) rfl dX3_between_73 ?_
        refine lv_iload hx hb dX3_between_76 (lv_at hl 6 rfl) ?_
        refine z_iald hx hb hK hP 3 rfl (j := i) (by omega) (by omega) dX3_between_78 ?_
        refine lv_iload_n hx hb dX3_between_79 rfl (lv_at hl 3 rfl) ?_
        refine lv_iload hx hb dX3_between_80 (lv_at hl 4 rfl) ?_
        refine vp_callSi (va_Run.run (va_runS (As := [.int (fa i), .int (fb i), .int c1, .int d]) (rest := []) ⟨hx, hb, hml, hown, hts⟩ (c_X3_order l (fa i) (fb i) c1 d) (va_cwS 4 hts gX3_between_X3_order rfl rfl rfl (by decide +kernel) ⟨Nat.le_of_ble_eq_true rfl, Nat.le_of_ble_eq_true rfl⟩) z_preT rfl rfl hl.1 rfl (lv_room (Nat.le_of_ble_eq_true rfl)) dX3_between_82 ⟨Nat.zero_le _, Nat.zero_le _⟩)) (fun r_4 hr_4 => ?_)
        rcases hr_4 with ⟨ho2, rfl⟩ | ⟨ho2, rfl⟩ | ⟨ho2, rfl⟩
        · refine lv_if_ge (tgt := 91) hx hb dX3_between_85 (by decide) (fun q => absurd q (by decide)) (fun _ => ?_)
          refine lv_iinc (v := nI (cntF (fun j => pB (¬ pk (fa j) (fb j) < pk a b ∧ pk (fa j) (fb j) < pk c1 d)) i + 1)) (lv' := [(5, .int (nI (cntF (fun j => pB (¬ pk (fa j) (fb j) < pk a b ∧ pk (fa j) (fb j) < pk c1 d)) i + 1))), (0, .ref y), (1, .int a), (2, .int b), (3, .int c1), (4, .int d), (6, .int (nI i))]) hx hb dX3_between_88 hl (k := 5) rfl (nI_add (cntF (fun j => pB (¬ pk (fa j) (fb j) < pk a b ∧ pk (fa j) (fb j) < pk c1 d)) i) 1) (by decide) rfl (fun ls hl => ?_)
          rw [← cntF_t (P := fun j => pB (¬ pk (fa j) (fb j) < pk a b ∧ pk (fa j) (fb j) < pk c1 d)) (pB_t ⟨(by rw [ho1]; exact Int64.lt_irrefl), ho2⟩)] at hl
          have hl : lv_has ls 7 [(5, .int (nI (cntF (fun j => pB (¬ pk (fa j) (fb j) < pk a b ∧ pk (fa j) (fb j) < pk c1 d)) (i + 1)))), (0, .ref y), (1, .int a), (2, .int b), (3, .int c1), (4, .int d), (6, .int (nI i))] := hl
          refine lv_iinc (v := nI (i + 1)) (lv' := [(6, .int (nI (i + 1))), (5, .int (nI (cntF (fun j => pB (¬ pk (fa j) (fb j) < pk a b ∧ pk (fa j) (fb j) < pk c1 d)) (i + 1)))), (0, .ref y), (1, .int a), (2, .int b), (3, .int c1), (4, .int d)]) hx hb dX3_between_91 hl (k := 6) rfl (nI_add i 1) (by decide) rfl (fun ls hl => ?_)
          refine lv_goto (tgt := 19) hx hb dX3_between_94 (by decide) ?_
          exact ih (i + 1) _ ⟨lv_sub hl [2, 3, 4, 5, 6, 1, 0] rfl, by omega⟩ (by first | omega | (dsimp only; omega))
        · refine lv_if_ge (tgt := 91) hx hb dX3_between_85 (by decide) (fun _ => ?_) (fun q => absurd (by decide) q)
          rw [← cntF_f (P := fun j => pB (¬ pk (fa j) (fb j) < pk a b ∧ pk (fa j) (fb j) < pk c1 d)) (pB_f (fun q => absurd q.2 (Int64.lt_asymm ho2)))] at hl
          have hl : lv_has ls 7 [(0, .ref y), (1, .int a), (2, .int b), (3, .int c1), (4, .int d), (5, .int (nI (cntF (fun j => pB (¬ pk (fa j) (fb j) < pk a b ∧ pk (fa j) (fb j) < pk c1 d)) (i + 1)))), (6, .int (nI i))] := hl
          refine lv_iinc (v := nI (i + 1)) (lv' := [(6, .int (nI (i + 1))), (0, .ref y), (1, .int a), (2, .int b), (3, .int c1), (4, .int d), (5, .int (nI (cntF (fun j => pB (¬ pk (fa j) (fb j) < pk a b ∧ pk (fa j) (fb j) < pk c1 d)) (i + 1))))]) hx hb dX3_between_91 hl (k := 6) rfl (nI_add i 1) (by decide) rfl (fun ls hl => ?_)
          refine lv_goto (tgt := 19) hx hb dX3_between_94 (by decide) ?_
          exact ih (i + 1) _ ⟨lv_sub hl [1, 2, 3, 4, 5, 6, 0] rfl, by omega⟩ (by first | omega | (dsimp only; omega))
        · refine lv_if_ge (tgt := 91) hx hb dX3_between_85 (by decide) (fun _ => ?_) (fun q => absurd (by decide) q)
          rw [← cntF_f (P := fun j => pB (¬ pk (fa j) (fb j) < pk a b ∧ pk (fa j) (fb j) < pk c1 d)) (pB_f (fun q => absurd q.2 ((by rw [ho2]; exact Int64.lt_irrefl))))] at hl
          have hl : lv_has ls 7 [(0, .ref y), (1, .int a), (2, .int b), (3, .int c1), (4, .int d), (5, .int (nI (cntF (fun j => pB (¬ pk (fa j) (fb j) < pk a b ∧ pk (fa j) (fb j) < pk c1 d)) (i + 1)))), (6, .int (nI i))] := hl
          refine lv_iinc (v := nI (i + 1)) (lv' := [(6, .int (nI (i + 1))), (0, .ref y), (1, .int a), (2, .int b), (3, .int c1), (4, .int d), (5, .int (nI (cntF (fun j => pB (¬ pk (fa j) (fb j) < pk a b ∧ pk (fa j) (fb j) < pk c1 d)) (i + 1))))]) hx hb dX3_between_91 hl (k := 6) rfl (nI_add i 1) (by decide) rfl (fun ls hl => ?_)
          refine lv_goto (tgt := 19) hx hb dX3_between_94 (by decide) ?_
          exact ih (i + 1) _ ⟨lv_sub hl [1, 2, 3, 4, 5, 6, 0] rfl, by omega⟩ (by first | omega | (dsimp only; omega))
  · refine lv_if_ge (tgt := 13) hx hb dX3_between_8 (by decide) (fun _ => ?_) (fun q => absurd (by decide) q)
    refine lv_iconst (v := nI 0) hx hb dX3_between_13 (by decide) ?_
    refine lv_istore (lv' := [(5, .int (nI 0)), (0, .ref y), (1, .int a), (2, .int b), (3, .int c1), (4, .int d)]) hx hb dX3_between_14 hl (by decide) rfl (fun ls hl => ?_)
    refine lv_iconst (v := nI 0) hx hb dX3_between_16 (by decide) ?_
    refine lv_istore (lv' := [(6, .int (nI 0)), (5, .int (nI 0)), (0, .ref y), (1, .int a), (2, .int b), (3, .int c1), (4, .int d)]) hx hb dX3_between_17 hl (by decide) rfl (fun ls hl => ?_)
    refine z_loop (σ := Nat) (fun i => n - i) (fun i ls => lv_has ls 7 [(0, .ref y), (1, .int a), (2, .int b), (3, .int c1), (4, .int d), (5, .int (nI (cntF (fun j => pB (¬ pk (fa j) (fb j) < pk a b ∧ pk (fa j) (fb j) < pk c1 d)) i))), (6, .int (nI i))] ∧ (i ≤ n)) ?_ (0) _ ⟨lv_sub hl [2, 3, 4, 5, 6, 1, 0] rfl, Nat.zero_le _⟩
    rintro i ls ⟨hl, hi⟩ ih
    have hl : lv_has ls 7 [(0, .ref y), (1, .int a), (2, .int b), (3, .int c1), (4, .int d), (5, .int (nI (cntF (fun j => pB (¬ pk (fa j) (fb j) < pk a b ∧ pk (fa j) (fb j) < pk c1 d)) i))), (6, .int (nI i))] := hl
    have hcl := cntF_le (fun j => pB (¬ pk (fa j) (fb j) < pk a b ∧ pk (fa j) (fb j) < pk c1 d)) i
    refine lv_iload hx hb dX3_between_19 (lv_at hl 6 rfl) ?_
    refine lv_aload_n hx hb dX3_between_21 rfl (lv_at hl 0 rfl) ?_
    refine va_get (D := D) (ci := 3) (v := .ref r2) (C := RX3) (T := TX3) (N := 10) hx hb hts lk1 hown hK hP 0 rfl rfl 2 (by decide) lk0 (fun _ h9 => h9) rfl dX3_between_22 ?_
    refine va_get (D := D) (ci := 2) (v := .int (nI n)) (C := RX2) (T := TX2) (N := 4) hx hb hts lk3 hown hK hP 1 rfl rfl 3 (by decide) lk2 (fun _ h9 => h9) rfl dX3_between_25 ?_
    refine z_icmp_ge (tgt := 97) hx hb dX3_between_28 (by decide) (by omega) (by omega) (fun c_28 => ?_) (fun c_28 => ?_)
    · refine lv_iload hx hb dX3_between_97 (lv_at hl 5 rfl) ?_
      exact W.iret (v := nI (cntF (fun j => pB (¬ pk (fa j) (fb j) < pk a b ∧ pk (fa j) (fb j) < pk c1 d)) i)) hx hb hr (fun t ht hW => ⟨nI (cntF (fun j => pB (¬ pk (fa j) (fb j) < pk a b ∧ pk (fa j) (fb j) < pk c1 d)) i), rfl, Or.inr ⟨by rw [ho0]; exact Int64.lt_irrefl, by rw [Nat.le_antisymm hi c_28]⟩, ht⟩) (fun _ h => nomatch h) dX3_between_99
    · refine lv_aload_n hx hb dX3_between_31 rfl (lv_at hl 0 rfl) ?_
      refine va_get (D := D) (ci := 3) (v := .ref r2) (C := RX3) (T := TX3) (N := 10) hx hb hts lk1 hown hK hP 0 rfl rfl 2 (by decide) lk0 (fun _ h9 => h9) rfl dX3_between_32 ?_
      refine va_get (D := D) (ci := 2) (v := .ref a0) (C := RX2) (T := TX2) (N := 4) hx hb hts lk3 hown hK hP 1 rfl rfl 0 (by decide) lk4 (fun _ h9 => h9) rfl dX3_between_35 ?_
      refine lv_iload hx hb dX3_between_38 (lv_at hl 6 rfl) ?_
      refine z_iald hx hb hK hP 2 rfl (j := i) (by omega) (by omega) dX3_between_40 ?_
      refine lv_aload_n hx hb dX3_between_41 rfl (lv_at hl 0 rfl) ?_
      refine va_get (D := D) (ci := 3) (v := .ref r2) (C := RX3) (T := TX3) (N := 10) hx hb hts lk1 hown hK hP 0 rfl rfl 2 (by decide) lk0 (fun _ h9 => h9) rfl dX3_between_42 ?_
      refine va_get (D := D) (ci := 2) (v := .ref b0) (C := RX2) (T := TX2) (N := 4) hx hb hts lk3 hown hK hP 1 rfl rfl 1 (by decide) lk5 (fun _ h9 => h9) rfl dX3_between_45 ?_
      refine lv_iload hx hb dX3_between_48 (lv_at hl 6 rfl) ?_
      refine z_iald hx hb hK hP 3 rfl (j := i) (by omega) (by omega) dX3_between_50 ?_
      refine lv_iload_n hx hb dX3_between_51 rfl (lv_at hl 1 rfl) ?_
      refine lv_iload_n hx hb dX3_between_52 rfl (lv_at hl 2 rfl) ?_
      refine vp_callSi (va_Run.run (va_runS (As := [.int (fa i), .int (fb i), .int a, .int b]) (rest := []) ⟨hx, hb, hml, hown, hts⟩ (c_X3_order l (fa i) (fb i) a b) (va_cwS 4 hts gX3_between_X3_order rfl rfl rfl (by decide +kernel) ⟨Nat.le_of_ble_eq_true rfl, Nat.le_of_ble_eq_true rfl⟩) z_preT rfl rfl hl.1 rfl (lv_room (Nat.le_of_ble_eq_true rfl)) dX3_between_53 ⟨Nat.zero_le _, Nat.zero_le _⟩)) (fun r_5 hr_5 => ?_)
      rcases hr_5 with ⟨ho1, rfl⟩ | ⟨ho1, rfl⟩ | ⟨ho1, rfl⟩
      · refine lv_if_lt (tgt := 91) hx hb dX3_between_56 (by decide) (fun _ => ?_) (fun q => absurd (by decide) q)
        rw [← cntF_f (P := fun j => pB (¬ pk (fa j) (fb j) < pk a b ∧ pk (fa j) (fb j) < pk c1 d)) (pB_f (fun q => q.1 ho1))] at hl
        have hl : lv_has ls 7 [(0, .ref y), (1, .int a), (2, .int b), (3, .int c1), (4, .int d), (5, .int (nI (cntF (fun j => pB (¬ pk (fa j) (fb j) < pk a b ∧ pk (fa j) (fb j) < pk c1 d)) (i + 1)))), (6, .int (nI i))] := hl
        refine lv_iinc (v := nI (i + 1)) (lv' := [(6, .int (nI (i + 1))), (0, .ref y), (1, .int a), (2, .int b), (3, .int c1), (4, .int d), (5, .int (nI (cntF (fun j => pB (¬ pk (fa j) (fb j) < pk a b ∧ pk (fa j) (fb j) < pk c1 d)) (i + 1))))]) hx hb dX3_between_91 hl (k := 6) rfl (nI_add i 1) (by decide) rfl (fun ls hl => ?_)
        refine lv_goto (tgt := 19) hx hb dX3_between_94 (by decide) ?_
        exact ih (i + 1) _ ⟨lv_sub hl [1, 2, 3, 4, 5, 6, 0] rfl, by omega⟩ (by first | omega | (dsimp only; omega))
      · refine lv_if_lt (tgt := 91) hx hb dX3_between_56 (by decide) (fun q => absurd q (by decide)) (fun _ => ?_)
        refine lv_aload_n hx hb dX3_between_59 rfl (lv_at hl 0 rfl) ?_
        refine va_get (D := D) (ci := 3) (v := .ref r2) (C := RX3) (T := TX3) (N := 10) hx hb hts lk1 hown hK hP 0 rfl rfl 2 (by decide) lk0 (fun _ h9 => h9) rfl dX3_between_60 ?_
        refine va_get (D := D) (ci := 2) (v := .ref a0) (C := RX2) (T := TX2) (N := 4) hx hb hts lk3 hown hK hP 1 rfl rfl 0 (by decide) lk4 (fun _ h9 => h9) rfl dX3_between_63 ?_
        refine lv_iload hx hb dX3_between_66 (lv_at hl 6 rfl) ?_
        refine z_iald hx hb hK hP 2 rfl (j := i) (by omega) (by omega) dX3_between_68 ?_
        refine lv_aload_n hx hb dX3_between_69 rfl (lv_at hl 0 rfl) ?_
        refine va_get (D := D) (ci := 3) (v := .ref r2) (C := RX3) (T := TX3) (N := 10) hx hb hts lk1 hown hK hP 0 rfl rfl 2 (by decide) lk0 (fun _ h9 => h9) rfl dX3_between_70 ?_
        refine va_get (D := D) (ci := 2) (v := .ref b0) (C := RX2) (T := TX2) (N := 4) hx hb hts lk3 hown hK hP 1 rfl rfl 1 (by decide) lk5 (fun _ h9 => h9) rfl dX3_between_73 ?_
        refine lv_iload hx hb dX3_between_76 (lv_at hl 6 rfl) ?_
        refine z_iald hx hb hK hP 3 rfl (j := i) (by omega) (by omega) dX3_between_78 ?_
        refine lv_iload_n hx hb dX3_between_79 rfl (lv_at hl 3 rfl) ?_
        refine lv_iload hx hb dX3_between_80 (lv_at hl 4 rfl) ?_
        refine vp_callSi (va_Run.run (va_runS (As := [.int (fa i), .int (fb i), .int c1, .int d]) (rest := []) ⟨hx, hb, hml, hown, hts⟩ (c_X3_order l (fa i) (fb i) c1 d) (va_cwS 4 hts gX3_between_X3_order rfl rfl rfl (by decide +kernel) ⟨Nat.le_of_ble_eq_true rfl, Nat.le_of_ble_eq_true rfl⟩) z_preT rfl rfl hl.1 rfl (lv_room (Nat.le_of_ble_eq_true rfl)) dX3_between_82 ⟨Nat.zero_le _, Nat.zero_le _⟩)) (fun r_6 hr_6 => ?_)
        rcases hr_6 with ⟨ho2, rfl⟩ | ⟨ho2, rfl⟩ | ⟨ho2, rfl⟩
        · refine lv_if_ge (tgt := 91) hx hb dX3_between_85 (by decide) (fun q => absurd q (by decide)) (fun _ => ?_)
          refine lv_iinc (v := nI (cntF (fun j => pB (¬ pk (fa j) (fb j) < pk a b ∧ pk (fa j) (fb j) < pk c1 d)) i + 1)) (lv' := [(5, .int (nI (cntF (fun j => pB (¬ pk (fa j) (fb j) < pk a b ∧ pk (fa j) (fb j) < pk c1 d)) i + 1))), (0, .ref y), (1, .int a), (2, .int b), (3, .int c1), (4, .int d), (6, .int (nI i))]) hx hb dX3_between_88 hl (k := 5) rfl (nI_add (cntF (fun j => pB (¬ pk (fa j) (fb j) < pk a b ∧ pk (fa j) (fb j) < pk c1 d)) i) 1) (by decide) rfl (fun ls hl => ?_)
          rw [← cntF_t (P := fun j => pB (¬ pk (fa j) (fb j) < pk a b ∧ pk (fa j) (fb j) < pk c1 d)) (pB_t ⟨Int64.lt_asymm ho1, ho2⟩)] at hl
          have hl : lv_has ls 7 [(5, .int (nI (cntF (fun j => pB (¬ pk (fa j) (fb j) < pk a b ∧ pk (fa j) (fb j) < pk c1 d)) (i + 1)))), (0, .ref y), (1, .int a), (2, .int b), (3, .int c1), (4, .int d), (6, .int (nI i))] := hl
          refine lv_iinc (v := nI (i + 1)) (lv' := [(6, .int (nI (i + 1))), (5, .int (nI (cntF (fun j => pB (¬ pk (fa j) (fb j) < pk a b ∧ pk (fa j) (fb j) < pk c1 d)) (i + 1)))), (0, .ref y), (1, .int a), (2, .int b), (3, .int c1), (4, .int d)]) hx hb dX3_between_91 hl (k := 6) rfl (nI_add i 1) (by decide) rfl (fun ls hl => ?_)
          refine lv_goto (tgt := 19) hx hb dX3_between_94 (by decide) ?_
          exact ih (i + 1) _ ⟨lv_sub hl [2, 3, 4, 5, 6, 1, 0] rfl, by omega⟩ (by first | omega | (dsimp only; omega))
        · refine lv_if_ge (tgt := 91) hx hb dX3_between_85 (by decide) (fun _ => ?_) (fun q => absurd (by decide) q)
          rw [← cntF_f (P := fun j => pB (¬ pk (fa j) (fb j) < pk a b ∧ pk (fa j) (fb j) < pk c1 d)) (pB_f (fun q => absurd q.2 (Int64.lt_asymm ho2)))] at hl
          have hl : lv_has ls 7 [(0, .ref y), (1, .int a), (2, .int b), (3, .int c1), (4, .int d), (5, .int (nI (cntF (fun j => pB (¬ pk (fa j) (fb j) < pk a b ∧ pk (fa j) (fb j) < pk c1 d)) (i + 1)))), (6, .int (nI i))] := hl
          refine lv_iinc (v := nI (i + 1)) (lv' := [(6, .int (nI (i + 1))), (0, .ref y), (1, .int a), (2, .int b), (3, .int c1), (4, .int d), (5, .int (nI (cntF (fun j => pB (¬ pk (fa j) (fb j) < pk a b ∧ pk (fa j) (fb j) < pk c1 d)) (i + 1))))]) hx hb dX3_between_91 hl (k := 6) rfl (nI_add i 1) (by decide) rfl (fun ls hl => ?_)
          refine lv_goto (tgt := 19) hx hb dX3_between_94 (by decide) ?_
          exact ih (i + 1) _ ⟨lv_sub hl [1, 2, 3, 4, 5, 6, 0] rfl, by omega⟩ (by first | omega | (dsimp only; omega))
        · refine lv_if_ge (tgt := 91) hx hb dX3_between_85 (by decide) (fun _ => ?_) (fun q => absurd (by decide) q)
          rw [← cntF_f (P := fun j => pB (¬ pk (fa j) (fb j) < pk a b ∧ pk (fa j) (fb j) < pk c1 d)) (pB_f (fun q => absurd q.2 ((by rw [ho2]; exact Int64.lt_irrefl))))] at hl
          have hl : lv_has ls 7 [(0, .ref y), (1, .int a), (2, .int b), (3, .int c1), (4, .int d), (5, .int (nI (cntF (fun j => pB (¬ pk (fa j) (fb j) < pk a b ∧ pk (fa j) (fb j) < pk c1 d)) (i + 1)))), (6, .int (nI i))] := hl
          refine lv_iinc (v := nI (i + 1)) (lv' := [(6, .int (nI (i + 1))), (0, .ref y), (1, .int a), (2, .int b), (3, .int c1), (4, .int d), (5, .int (nI (cntF (fun j => pB (¬ pk (fa j) (fb j) < pk a b ∧ pk (fa j) (fb j) < pk c1 d)) (i + 1))))]) hx hb dX3_between_91 hl (k := 6) rfl (nI_add i 1) (by decide) rfl (fun ls hl => ?_)
          refine lv_goto (tgt := 19) hx hb dX3_between_94 (by decide) ?_
          exact ih (i + 1) _ ⟨lv_sub hl [1, 2, 3, 4, 5, 6, 0] rfl, by omega⟩ (by first | omega | (dsimp only; omega))
      · refine lv_if_lt (tgt := 91) hx hb dX3_between_56 (by decide) (fun q => absurd q (by decide)) (fun _ => ?_)
        refine lv_aload_n hx hb dX3_between_59 rfl (lv_at hl 0 rfl) ?_
        refine va_get (D := D) (ci := 3) (v := .ref r2) (C := RX3) (T := TX3) (N := 10) hx hb hts lk1 hown hK hP 0 rfl rfl 2 (by decide) lk0 (fun _ h9 => h9) rfl dX3_between_60 ?_
        refine va_get (D := D) (ci := 2) (v := .ref a0) (C := RX2) (T := TX2) (N := 4) hx hb hts lk3 hown hK hP 1 rfl rfl 0 (by decide) lk4 (fun _ h9 => h9) rfl dX3_between_63 ?_
        refine lv_iload hx hb dX3_between_66 (lv_at hl 6 rfl) ?_
        refine z_iald hx hb hK hP 2 rfl (j := i) (by omega) (by omega) dX3_between_68 ?_
        refine lv_aload_n hx hb dX3_between_69 rfl (lv_at hl 0 rfl) ?_
        refine va_get (D := D) (ci := 3) (v := .ref r2) (C := RX3) (T := TX3) (N := 10) hx hb hts lk1 hown hK hP 0 rfl rfl 2 (by decide) lk0 (fun _ h9 => h9) rfl dX3_between_70 ?_
        refine va_get (D := D) (ci := 2) (v := .ref b0) (C := RX2) (T := TX2) (N := 4) hx hb hts lk3 hown hK hP 1 rfl rfl 1 (by decide) lk5 (fun _ h9 => h9) rfl dX3_between_73 ?_
        refine lv_iload hx hb dX3_between_76 (lv_at hl 6 rfl) ?_
        refine z_iald hx hb hK hP 3 rfl (j := i) (by omega) (by omega) dX3_between_78 ?_
        refine lv_iload_n hx hb dX3_between_79 rfl (lv_at hl 3 rfl) ?_
        refine lv_iload hx hb dX3_between_80 (lv_at hl 4 rfl) ?_
        refine vp_callSi (va_Run.run (va_runS (As := [.int (fa i), .int (fb i), .int c1, .int d]) (rest := []) ⟨hx, hb, hml, hown, hts⟩ (c_X3_order l (fa i) (fb i) c1 d) (va_cwS 4 hts gX3_between_X3_order rfl rfl rfl (by decide +kernel) ⟨Nat.le_of_ble_eq_true rfl, Nat.le_of_ble_eq_true rfl⟩) z_preT rfl rfl hl.1 rfl (lv_room (Nat.le_of_ble_eq_true rfl)) dX3_between_82 ⟨Nat.zero_le _, Nat.zero_le _⟩)) (fun r_7 hr_7 => ?_)
        rcases hr_7 with ⟨ho2, rfl⟩ | ⟨ho2, rfl⟩ | ⟨ho2, rfl⟩
        · refine lv_if_ge (tgt := 91) hx hb dX3_between_85 (by decide) (fun q => absurd q (by decide)) (fun _ => ?_)
          refine lv_iinc (v := nI (cntF (fun j => pB (¬ pk (fa j) (fb j) < pk a b ∧ pk (fa j) (fb j) < pk c1 d)) i + 1)) (lv' := [(5, .int (nI (cntF (fun j => pB (¬ pk (fa j) (fb j) < pk a b ∧ pk (fa j) (fb j) < pk c1 d)) i + 1))), (0, .ref y), (1, .int a), (2, .int b), (3, .int c1), (4, .int d), (6, .int (nI i))]) hx hb dX3_between_88 hl (k := 5) rfl (nI_add (cntF (fun j => pB (¬ pk (fa j) (fb j) < pk a b ∧ pk (fa j) (fb j) < pk c1 d)) i) 1) (by decide) rfl (fun ls hl => ?_)
          rw [← cntF_t (P := fun j => pB (¬ pk (fa j) (fb j) < pk a b ∧ pk (fa j) (fb j) < pk c1 d)) (pB_t ⟨(by rw [ho1]; exact Int64.lt_irrefl), ho2⟩)] at hl
          have hl : lv_has ls 7 [(5, .int (nI (cntF (fun j => pB (¬ pk (fa j) (fb j) < pk a b ∧ pk (fa j) (fb j) < pk c1 d)) (i + 1)))), (0, .ref y), (1, .int a), (2, .int b), (3, .int c1), (4, .int d), (6, .int (nI i))] := hl
          refine lv_iinc (v := nI (i + 1)) (lv' := [(6, .int (nI (i + 1))), (5, .int (nI (cntF (fun j => pB (¬ pk (fa j) (fb j) < pk a b ∧ pk (fa j) (fb j) < pk c1 d)) (i + 1)))), (0, .ref y), (1, .int a), (2, .int b), (3, .int c1), (4, .int d)]) hx hb dX3_between_91 hl (k := 6) rfl (nI_add i 1) (by decide) rfl (fun ls hl => ?_)
          refine lv_goto (tgt := 19) hx hb dX3_between_94 (by decide) ?_
          exact ih (i + 1) _ ⟨lv_sub hl [2, 3, 4, 5, 6, 1, 0] rfl, by omega⟩ (by first | omega | (dsimp only; omega))
        · refine lv_if_ge (tgt := 91) hx hb dX3_between_85 (by decide) (fun _ => ?_) (fun q => absurd (by decide) q)
          rw [← cntF_f (P := fun j => pB (¬ pk (fa j) (fb j) < pk a b ∧ pk (fa j) (fb j) < pk c1 d)) (pB_f (fun q => absurd q.2 (Int64.lt_asymm ho2)))] at hl
          have hl : lv_has ls 7 [(0, .ref y), (1, .int a), (2, .int b), (3, .int c1), (4, .int d), (5, .int (nI (cntF (fun j => pB (¬ pk (fa j) (fb j) < pk a b ∧ pk (fa j) (fb j) < pk c1 d)) (i + 1)))), (6, .int (nI i))] := hl
          refine lv_iinc (v := nI (i + 1)) (lv' := [(6, .int (nI (i + 1))), (0, .ref y), (1, .int a), (2, .int b), (3, .int c1), (4, .int d), (5, .int (nI (cntF (fun j => pB (¬ pk (fa j) (fb j) < pk a b ∧ pk (fa j) (fb j) < pk c1 d)) (i + 1))))]) hx hb dX3_between_91 hl (k := 6) rfl (nI_add i 1) (by decide) rfl (fun ls hl => ?_)
          refine lv_goto (tgt := 19) hx hb dX3_between_94 (by decide) ?_
          exact ih (i + 1) _ ⟨lv_sub hl [1, 2, 3, 4, 5, 6, 0] rfl, by omega⟩ (by first | omega | (dsimp only; omega))
        · refine lv_if_ge (tgt := 91) hx hb dX3_between_85 (by decide) (fun _ => ?_) (fun q => absurd (by decide) q)
          rw [← cntF_f (P := fun j => pB (¬ pk (fa j) (fb j) < pk a b ∧ pk (fa j) (fb j) < pk c1 d)) (pB_f (fun q => absurd q.2 ((by rw [ho2]; exact Int64.lt_irrefl))))] at hl
          have hl : lv_has ls 7 [(0, .ref y), (1, .int a), (2, .int b), (3, .int c1), (4, .int d), (5, .int (nI (cntF (fun j => pB (¬ pk (fa j) (fb j) < pk a b ∧ pk (fa j) (fb j) < pk c1 d)) (i + 1)))), (6, .int (nI i))] := hl
          refine lv_iinc (v := nI (i + 1)) (lv' := [(6, .int (nI (i + 1))), (0, .ref y), (1, .int a), (2, .int b), (3, .int c1), (4, .int d), (5, .int (nI (cntF (fun j => pB (¬ pk (fa j) (fb j) < pk a b ∧ pk (fa j) (fb j) < pk c1 d)) (i + 1))))]) hx hb dX3_between_91 hl (k := 6) rfl (nI_add i 1) (by decide) rfl (fun ls hl => ?_)
          refine lv_goto (tgt := 19) hx hb dX3_between_94 (by decide) ?_
          exact ih (i + 1) _ ⟨lv_sub hl [1, 2, 3, 4, 5, 6, 0] rfl, by omega⟩ (by first | omega | (dsimp only; omega))
