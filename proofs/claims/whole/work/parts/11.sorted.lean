/-! the sorted row: its methods -/
set_option maxHeartbeats 4000000 in
set_option maxRecDepth 100000 in
theorem c_X0_held (l : Launch) (D : va_G) (cI cJ : ClassId) (h ka va cap n : Nat) (K V : Nat → Int64) : Met l yX0_held wsX0_held { frames := 0, cells := 0, slots := 0, locals := 0 } (va_Pc [.ref h] (rP D cI cJ [(h, .inr (0, [.ref ka, .ref va, .int (nI n)])), (ka, .inl (cJ, cap, .inr (.inl K))), (va, .inl (cJ, cap, .inr (.inl V)))])) (vp_Si (fun r => r = nI n)) 0 0 (fun _ => False) := by
  refine Met.ofW (cc := cX0_held) (maxL := 1) (ret := (some .int)) (by decide) rfl ?_
  intro p e s m args below meth c s₁ B hml hv
  obtain ⟨rfl, hP, hK⟩ := hv
  have hx := B.exec
  have hb := B.bytes
  have hr := B.returns
  have hts := atoms_spec (ws := wsX0_held) B.pre
  have hown : s.vm.findClass RX0 = some m.cls := findClass_of_methodNamed B.named
  have hlocks := B.notSynchronized
  have lk0 := hts (.fieldLink RX0 11 "KeyHall$Sorted" "held" "I") (by decide +kernel)
  have lk1 : ∀ w ∈ wsX00, w ∈ wsX0_held := by decide +kernel
  have hl := lv_entry ([.ref h]) (n := 1) (Nat.le_of_ble_eq_true rfl)
  rw [lg_entry_eq]
  generalize (lg_sl ([.ref h]) ++ List.replicate (1 - (lg_sl ([.ref h])).length) Slot.unset).toArray = ls at hl ⊢
  have hl : lv_has ls 1 [(0, .ref h)] := hl
  refine lv_aload_n hx hb dX0_held_0 rfl (lv_at hl 0 rfl) ?_
  refine va_get (D := D) (ci := 0) (v := .int (nI n)) (C := RX0) (T := TX0) (N := 3) hx hb hts lk1 hown hK hP 0 rfl rfl 2 (by decide) lk0 (fun _ h9 => h9) rfl dX0_held_1 ?_
  exact W.iret (v := nI n) hx hb hr (fun t ht hW => ⟨nI n, rfl, rfl, ht⟩) (fun _ h => nomatch h) dX0_held_4

set_option maxHeartbeats 4000000 in
set_option maxRecDepth 100000 in
theorem c_X0_isInside (l : Launch) (D : va_G) (cI cJ : ClassId) (h ka va cap n : Nat) (K V : Nat → Int64) (x : Int32) : Met l yX0_isInside wsX0_isInside { frames := 0, cells := 0, slots := 0, locals := 0 } (va_Pc [.ref h, .int x] (rP D cI cJ [(h, .inr (0, [.ref ka, .ref va, .int (nI n)])), (ka, .inl (cJ, cap, .inr (.inl K))), (va, .inl (cJ, cap, .inr (.inl V)))])) (vp_Si (fun r => (¬ x < 0 ∧ ¬ nI n ≤ x ∧ r = nI 1) ∨ (¬ (¬ x < 0 ∧ ¬ nI n ≤ x) ∧ r = nI 0))) 0 0 (fun _ => False) := by
  refine Met.ofW (cc := cX0_isInside) (maxL := 2) (ret := (some .boolean)) (by decide) rfl ?_
  intro p e s m args below meth c s₁ B hml hv
  obtain ⟨rfl, hP, hK⟩ := hv
  have hx := B.exec
  have hb := B.bytes
  have hr := B.returns
  have hts := atoms_spec (ws := wsX0_isInside) B.pre
  have hown : s.vm.findClass RX0 = some m.cls := findClass_of_methodNamed B.named
  have hlocks := B.notSynchronized
  have lk0 := hts (.fieldLink RX0 11 "KeyHall$Sorted" "held" "I") (by decide +kernel)
  have lk1 : ∀ w ∈ wsX00, w ∈ wsX0_isInside := by decide +kernel
  have hl := lv_entry ([.ref h, .int x]) (n := 2) (Nat.le_of_ble_eq_true rfl)
  rw [lg_entry_eq]
  generalize (lg_sl ([.ref h, .int x]) ++ List.replicate (2 - (lg_sl ([.ref h, .int x])).length) Slot.unset).toArray = ls at hl ⊢
  have hl : lv_has ls 2 [(0, .ref h), (1, .int x)] := hl
  refine lv_iload_n hx hb dX0_isInside_0 rfl (lv_at hl 1 rfl) ?_
  refine lv_if_lt (tgt := 16) hx hb dX0_isInside_1 (by decide) (fun c_1 => ?_) (fun c_1 => ?_)
  · refine lv_iconst (v := nI 0) hx hb dX0_isInside_16 (by decide) ?_
    exact W.zret (v := nI 0) hx hb hr (by decide) (fun t ht hW => ⟨nI 0, rfl, Or.inr ⟨fun q => q.1 c_1, rfl⟩, ht⟩) (fun _ h => nomatch h) dX0_isInside_17
  · refine lv_iload_n hx hb dX0_isInside_4 rfl (lv_at hl 1 rfl) ?_
    refine lv_aload_n hx hb dX0_isInside_5 rfl (lv_at hl 0 rfl) ?_
    refine va_get (D := D) (ci := 0) (v := .int (nI n)) (C := RX0) (T := TX0) (N := 3) hx hb hts lk1 hown hK hP 0 rfl rfl 2 (by decide) lk0 (fun _ h9 => h9) rfl dX0_isInside_6 ?_
    refine lv_icmp_ge (tgt := 16) hx hb dX0_isInside_9 (by decide) (fun c_9 => ?_) (fun c_9 => ?_)
    · refine lv_iconst (v := nI 0) hx hb dX0_isInside_16 (by decide) ?_
      exact W.zret (v := nI 0) hx hb hr (by decide) (fun t ht hW => ⟨nI 0, rfl, Or.inr ⟨fun q => q.2 c_9, rfl⟩, ht⟩) (fun _ h => nomatch h) dX0_isInside_17
    · refine lv_iconst (v := nI 1) hx hb dX0_isInside_12 (by decide) ?_
      refine lv_goto (tgt := 17) hx hb dX0_isInside_13 (by decide) ?_
      exact W.zret (v := nI 1) hx hb hr (by decide) (fun t ht hW => ⟨nI 1, rfl, Or.inl ⟨c_1, c_9, rfl⟩, ht⟩) (fun _ h => nomatch h) dX0_isInside_17

set_option maxHeartbeats 4000000 in
set_option maxRecDepth 100000 in
theorem c_X0_keyAt (l : Launch) (D : va_G) (cI cJ : ClassId) (h ka va cap n : Nat) (K V : Nat → Int64) (x : Int32) (hn : n ≤ cap) (hc : cap ≤ 1023) : Met l yX0_keyAt wsX0_keyAt { frames := 1, cells := 0, slots := 0, locals := 21 } (va_Pc [.ref h, .int x] (rP D cI cJ [(h, .inr (0, [.ref ka, .ref va, .int (nI n)])), (ka, .inl (cJ, cap, .inr (.inl K))), (va, .inl (cJ, cap, .inr (.inl V)))])) (vp_Sl (fun r => r = vAt n K x)) 0 0 (fun _ => False) := by
  refine Met.ofW (cc := cX0_keyAt) (maxL := 2) (ret := (some .long)) (by decide) rfl ?_
  intro p e s m args below meth c s₁ B hml hv
  obtain ⟨rfl, hP, hK⟩ := hv
  have hx := B.exec
  have hb := B.bytes
  have hr := B.returns
  have hts := atoms_spec (ws := wsX0_keyAt) B.pre
  have hown : s.vm.findClass RX0 = some m.cls := findClass_of_methodNamed B.named
  have hlocks := B.notSynchronized
  have lk0 := hts (.fieldLink RX0 24 "KeyHall$Sorted" "keys" "[J") (by decide +kernel)
  have lk1 : ∀ w ∈ wsX00, w ∈ wsX0_keyAt := by decide +kernel
  have lk2 := hts (.constantLong RX0 48 (4611686018427387904)) (by decide +kernel)
  have hl := lv_entry ([.ref h, .int x]) (n := 2) (Nat.le_of_ble_eq_true rfl)
  rw [lg_entry_eq]
  generalize (lg_sl ([.ref h, .int x]) ++ List.replicate (2 - (lg_sl ([.ref h, .int x])).length) Slot.unset).toArray = ls at hl ⊢
  have hl : lv_has ls 2 [(0, .ref h), (1, .int x)] := hl
  refine lv_aload_n hx hb dX0_keyAt_0 rfl (lv_at hl 0 rfl) ?_
  refine lv_iload_n hx hb dX0_keyAt_1 rfl (lv_at hl 1 rfl) ?_
  refine vp_callSi (va_Run.run (va_runV (As := [.int x]) (rest := []) ⟨hx, hb, hml, hown, hts⟩ (c_X0_isInside l D cI cJ h ka va cap n K V x ) (cwV 1 hts gX0_keyAt_X0_isInside rfl rfl rfl (by decide +kernel) ⟨Nat.le_of_ble_eq_true rfl, Nat.le_of_ble_eq_true rfl⟩) (z_preV hK hP [0, 1, 2] rfl 0 0 rfl rfl) rfl rfl hl.1 rfl (lv_room (Nat.le_of_ble_eq_true rfl)) dX0_keyAt_2 ⟨Nat.zero_le _, Nat.zero_le _⟩)) (fun r_1 hr_1 => ?_)
  rcases hr_1 with ⟨hi1, hi2, rfl⟩ | ⟨hi1, rfl⟩
  · obtain ⟨j_2, hj, rfl⟩ := ix_of hi1 hi2 (by omega)
    refine lv_if_eq (tgt := 17) hx hb dX0_keyAt_5 (by decide) (fun q => absurd q (by decide)) (fun _ => ?_)
    refine lv_aload_n hx hb dX0_keyAt_8 rfl (lv_at hl 0 rfl) ?_
    refine va_get (D := D) (ci := 0) (v := .ref ka) (C := RX0) (T := TX0) (N := 3) hx hb hts lk1 hown hK hP 0 rfl rfl 0 (by decide) lk0 (fun _ h9 => h9) rfl dX0_keyAt_9 ?_
    refine lv_iload_n hx hb dX0_keyAt_12 rfl (lv_at hl 1 rfl) ?_
    refine z_lald hx hb hK hP 1 rfl (j := j_2) (by omega) (by omega) dX0_keyAt_13 ?_
    refine lv_goto (tgt := 20) hx hb dX0_keyAt_14 (by decide) ?_
    exact W.lret (v := K j_2) hx hb hr (fun t ht hW => ⟨K j_2, rfl, (vAt_N (by omega) hj).symm, ht⟩) (fun _ h => nomatch h) dX0_keyAt_20
  · refine lv_if_eq (tgt := 17) hx hb dX0_keyAt_5 (by decide) (fun _ => ?_) (fun q => absurd (by decide) q)
    refine lv_ldc2 hx hb hown lk2 dX0_keyAt_17 ?_
    exact W.lret (v := 4611686018427387904) hx hb hr (fun t ht hW => ⟨4611686018427387904, rfl, (vAt_out hi1).symm, ht⟩) (fun _ h => nomatch h) dX0_keyAt_20

set_option maxHeartbeats 4000000 in
set_option maxRecDepth 100000 in
theorem c_X0_valueAt (l : Launch) (D : va_G) (cI cJ : ClassId) (h ka va cap n : Nat) (K V : Nat → Int64) (x : Int32) (hn : n ≤ cap) (hc : cap ≤ 1023) : Met l yX0_valueAt wsX0_valueAt { frames := 1, cells := 0, slots := 0, locals := 21 } (va_Pc [.ref h, .int x] (rP D cI cJ [(h, .inr (0, [.ref ka, .ref va, .int (nI n)])), (ka, .inl (cJ, cap, .inr (.inl K))), (va, .inl (cJ, cap, .inr (.inl V)))])) (vp_Sl (fun r => r = vAt n V x)) 0 0 (fun _ => False) := by
  refine Met.ofW (cc := cX0_valueAt) (maxL := 2) (ret := (some .long)) (by decide) rfl ?_
  intro p e s m args below meth c s₁ B hml hv
  obtain ⟨rfl, hP, hK⟩ := hv
  have hx := B.exec
  have hb := B.bytes
  have hr := B.returns
  have hts := atoms_spec (ws := wsX0_valueAt) B.pre
  have hown : s.vm.findClass RX0 = some m.cls := findClass_of_methodNamed B.named
  have hlocks := B.notSynchronized
  have lk0 := hts (.fieldLink RX0 28 "KeyHall$Sorted" "values" "[J") (by decide +kernel)
  have lk1 : ∀ w ∈ wsX00, w ∈ wsX0_valueAt := by decide +kernel
  have lk2 := hts (.constantLong RX0 48 (4611686018427387904)) (by decide +kernel)
  have hl := lv_entry ([.ref h, .int x]) (n := 2) (Nat.le_of_ble_eq_true rfl)
  rw [lg_entry_eq]
  generalize (lg_sl ([.ref h, .int x]) ++ List.replicate (2 - (lg_sl ([.ref h, .int x])).length) Slot.unset).toArray = ls at hl ⊢
  have hl : lv_has ls 2 [(0, .ref h), (1, .int x)] := hl
  refine lv_aload_n hx hb dX0_valueAt_0 rfl (lv_at hl 0 rfl) ?_
  refine lv_iload_n hx hb dX0_valueAt_1 rfl (lv_at hl 1 rfl) ?_
  refine vp_callSi (va_Run.run (va_runV (As := [.int x]) (rest := []) ⟨hx, hb, hml, hown, hts⟩ (c_X0_isInside l D cI cJ h ka va cap n K V x ) (cwV 1 hts gX0_valueAt_X0_isInside rfl rfl rfl (by decide +kernel) ⟨Nat.le_of_ble_eq_true rfl, Nat.le_of_ble_eq_true rfl⟩) (z_preV hK hP [0, 1, 2] rfl 0 0 rfl rfl) rfl rfl hl.1 rfl (lv_room (Nat.le_of_ble_eq_true rfl)) dX0_valueAt_2 ⟨Nat.zero_le _, Nat.zero_le _⟩)) (fun r_1 hr_1 => ?_)
  rcases hr_1 with ⟨hi1, hi2, rfl⟩ | ⟨hi1, rfl⟩
  · obtain ⟨j_2, hj, rfl⟩ := ix_of hi1 hi2 (by omega)
    refine lv_if_eq (tgt := 17) hx hb dX0_valueAt_5 (by decide) (fun q => absurd q (by decide)) (fun _ => ?_)
    refine lv_aload_n hx hb dX0_valueAt_8 rfl (lv_at hl 0 rfl) ?_
    refine va_get (D := D) (ci := 0) (v := .ref va) (C := RX0) (T := TX0) (N := 3) hx hb hts lk1 hown hK hP 0 rfl rfl 1 (by decide) lk0 (fun _ h9 => h9) rfl dX0_valueAt_9 ?_
    refine lv_iload_n hx hb dX0_valueAt_12 rfl (lv_at hl 1 rfl) ?_
    refine z_lald hx hb hK hP 2 rfl (j := j_2) (by omega) (by omega) dX0_valueAt_13 ?_
    refine lv_goto (tgt := 20) hx hb dX0_valueAt_14 (by decide) ?_
    exact W.lret (v := V j_2) hx hb hr (fun t ht hW => ⟨V j_2, rfl, (vAt_N (by omega) hj).symm, ht⟩) (fun _ h => nomatch h) dX0_valueAt_20
  · refine lv_if_eq (tgt := 17) hx hb dX0_valueAt_5 (by decide) (fun _ => ?_) (fun q => absurd (by decide) q)
    refine lv_ldc2 hx hb hown lk2 dX0_valueAt_17 ?_
    exact W.lret (v := 4611686018427387904) hx hb hr (fun t ht hW => ⟨4611686018427387904, rfl, (vAt_out hi1).symm, ht⟩) (fun _ h => nomatch h) dX0_valueAt_20

set_option maxHeartbeats 4000000 in
set_option maxRecDepth 100000 in
theorem c_X0_isKeyAt (l : Launch) (D : va_G) (cI cJ : ClassId) (h ka va cap n : Nat) (K V : Nat → Int64) (j : Nat) (key : Int64) (hj31 : j < 2 ^ 31) (hn : n ≤ cap) (hc : cap ≤ 1023) : Met l yX0_isKeyAt wsX0_isKeyAt { frames := 1, cells := 0, slots := 0, locals := 21 } (va_Pc [.ref h, .int (nI j), .long key] (rP D cI cJ [(h, .inr (0, [.ref ka, .ref va, .int (nI n)])), (ka, .inl (cJ, cap, .inr (.inl K))), (va, .inl (cJ, cap, .inr (.inl V)))])) (vp_Si (fun r => (j < n ∧ K j = key ∧ r = nI 1) ∨ ((j < n → K j ≠ key) ∧ r = nI 0))) 0 0 (fun _ => False) := by
  refine Met.ofW (cc := cX0_isKeyAt) (maxL := 4) (ret := (some .boolean)) (by decide) rfl ?_
  intro p e s m args below meth c s₁ B hml hv
  obtain ⟨rfl, hP, hK⟩ := hv
  have hx := B.exec
  have hb := B.bytes
  have hr := B.returns
  have hts := atoms_spec (ws := wsX0_isKeyAt) B.pre
  have hown : s.vm.findClass RX0 = some m.cls := findClass_of_methodNamed B.named
  have hlocks := B.notSynchronized
  have lk0 := hts (.fieldLink RX0 24 "KeyHall$Sorted" "keys" "[J") (by decide +kernel)
  have lk1 : ∀ w ∈ wsX00, w ∈ wsX0_isKeyAt := by decide +kernel
  have hl := lv_entry ([.ref h, .int (nI j), .long key]) (n := 4) (Nat.le_of_ble_eq_true rfl)
  rw [lg_entry_eq]
  generalize (lg_sl ([.ref h, .int (nI j), .long key]) ++ List.replicate (4 - (lg_sl ([.ref h, .int (nI j), .long key])).length) Slot.unset).toArray = ls at hl ⊢
  have hl : lv_has ls 4 [(0, .ref h), (1, .int (nI j)), (2, .long key)] := hl
  refine lv_aload_n hx hb dX0_isKeyAt_0 rfl (lv_at hl 0 rfl) ?_
  refine lv_iload_n hx hb dX0_isKeyAt_1 rfl (lv_at hl 1 rfl) ?_
  refine vp_callSi (va_Run.run (va_runV (As := [.int (nI j)]) (rest := []) ⟨hx, hb, hml, hown, hts⟩ (c_X0_isInside l D cI cJ h ka va cap n K V (nI j) ) (cwV 1 hts gX0_isKeyAt_X0_isInside rfl rfl rfl (by decide +kernel) ⟨Nat.le_of_ble_eq_true rfl, Nat.le_of_ble_eq_true rfl⟩) (z_preV hK hP [0, 1, 2] rfl 0 0 rfl rfl) rfl rfl hl.1 rfl (lv_room (Nat.le_of_ble_eq_true rfl)) dX0_isKeyAt_2 ⟨Nat.zero_le _, Nat.zero_le _⟩)) (fun r_1 hr_1 => ?_)
  rcases hr_1 with ⟨hi1, hi2, rfl⟩ | ⟨hi1, rfl⟩
  · have hj : j < n := Nat.not_le.mp fun q => hi2 (nI_le q (by omega))
    refine lv_if_eq (tgt := 23) hx hb dX0_isKeyAt_5 (by decide) (fun q => absurd q (by decide)) (fun _ => ?_)
    refine lv_aload_n hx hb dX0_isKeyAt_8 rfl (lv_at hl 0 rfl) ?_
    refine va_get (D := D) (ci := 0) (v := .ref ka) (C := RX0) (T := TX0) (N := 3) hx hb hts lk1 hown hK hP 0 rfl rfl 0 (by decide) lk0 (fun _ h9 => h9) rfl dX0_isKeyAt_9 ?_
    refine lv_iload_n hx hb dX0_isKeyAt_12 rfl (lv_at hl 1 rfl) ?_
    refine z_lald hx hb hK hP 1 rfl (j := j) (by omega) (by omega) dX0_isKeyAt_13 ?_
    refine lv_lload_n hx hb dX0_isKeyAt_14 rfl (lv_at hl 2 rfl) ?_
    refine z_lc_ne (tgt := 23) hx hb dX0_isKeyAt_15 dX0_isKeyAt_16 (by decide) (fun c_16 => ?_) (fun c_16 => ?_)
    · refine lv_iconst (v := nI 0) hx hb dX0_isKeyAt_23 (by decide) ?_
      exact W.zret (v := nI 0) hx hb hr (by decide) (fun t ht hW => ⟨nI 0, rfl, Or.inr ⟨fun _ => c_16, rfl⟩, ht⟩) (fun _ h => nomatch h) dX0_isKeyAt_24
    · refine lv_iconst (v := nI 1) hx hb dX0_isKeyAt_19 (by decide) ?_
      refine lv_goto (tgt := 24) hx hb dX0_isKeyAt_20 (by decide) ?_
      exact W.zret (v := nI 1) hx hb hr (by decide) (fun t ht hW => ⟨nI 1, rfl, Or.inl ⟨hj, c_16, rfl⟩, ht⟩) (fun _ h => nomatch h) dX0_isKeyAt_24
  · have hj : n ≤ j := Nat.not_lt.mp fun q => hi1 ⟨nI_pos (by omega), nI_ge q (by omega)⟩
    refine lv_if_eq (tgt := 23) hx hb dX0_isKeyAt_5 (by decide) (fun _ => ?_) (fun q => absurd (by decide) q)
    refine lv_iconst (v := nI 0) hx hb dX0_isKeyAt_23 (by decide) ?_
    exact W.zret (v := nI 0) hx hb hr (by decide) (fun t ht hW => ⟨nI 0, rfl, Or.inr ⟨fun q => absurd q (Nat.not_lt.mpr hj), rfl⟩, ht⟩) (fun _ h => nomatch h) dX0_isKeyAt_24

set_option maxHeartbeats 4000000 in
set_option maxRecDepth 100000 in
theorem c_X0_below (l : Launch) (D : va_G) (cI cJ : ClassId) (h ka va cap n : Nat) (K V : Nat → Int64) (key : Int64) (hn : n ≤ cap) (hc : cap ≤ 1023) (hs : Srt n K) : Met l yX0_below wsX0_below { frames := 0, cells := 0, slots := 0, locals := 0 } (va_Pc [.ref h, .long key] (rP D cI cJ [(h, .inr (0, [.ref ka, .ref va, .int (nI n)])), (ka, .inl (cJ, cap, .inr (.inl K))), (va, .inl (cJ, cap, .inr (.inl V)))])) (vp_Si (fun r => ∃ b, r = nI b ∧ BL n K key b)) 0 0 (fun _ => False) := by
  refine Met.ofW (cc := cX0_below) (maxL := 5) (ret := (some .int)) (by decide) rfl ?_
  intro p e s m args below meth c s₁ B hml hv
  obtain ⟨rfl, hP, hK⟩ := hv
  have hx := B.exec
  have hb := B.bytes
  have hr := B.returns
  have hts := atoms_spec (ws := wsX0_below) B.pre
  have hown : s.vm.findClass RX0 = some m.cls := findClass_of_methodNamed B.named
  have hlocks := B.notSynchronized
  have lk0 := hts (.fieldLink RX0 11 "KeyHall$Sorted" "held" "I") (by decide +kernel)
  have lk1 : ∀ w ∈ wsX00, w ∈ wsX0_below := by decide +kernel
  have lk2 := hts (.fieldLink RX0 24 "KeyHall$Sorted" "keys" "[J") (by decide +kernel)
  have hl := lv_entry ([.ref h, .long key]) (n := 5) (Nat.le_of_ble_eq_true rfl)
  rw [lg_entry_eq]
  generalize (lg_sl ([.ref h, .long key]) ++ List.replicate (5 - (lg_sl ([.ref h, .long key])).length) Slot.unset).toArray = ls at hl ⊢
  have hl : lv_has ls 5 [(0, .ref h), (1, .long key)] := hl
  refine lv_iconst (v := nI 0) hx hb dX0_below_0 (by decide) ?_
  refine lv_istore_n (lv' := [(3, .int (nI 0)), (0, .ref h), (1, .long key)]) hx hb dX0_below_1 rfl hl (by decide) rfl (fun ls hl => ?_)
  refine lv_sipush (v := nI 512) hx hb dX0_below_2 (by decide) ?_
  refine lv_istore (lv' := [(4, .int (nI 512)), (3, .int (nI 0)), (0, .ref h), (1, .long key)]) hx hb dX0_below_5 hl (by decide) rfl (fun ls hl => ?_)
  refine z_loop (σ := Nat × Nat) (fun (t, f) => t) (fun (t, f) ls => lv_has ls 5 [(0, .ref h), (1, .long key), (3, .int (nI f)), (4, .int (nI (2 ^ t / 2)))] ∧ (t ≤ 10) ∧ (f ≤ n) ∧ (∀ i, i < f → K i < key) ∧ (∀ i, f + 2 ^ t ≤ i + 1 → i < n → key ≤ K i)) ?_ ((10, 0)) _ ⟨lv_sub hl [2, 3, 1, 0] rfl, by decide, Nat.zero_le _, fun i h => absurd h (Nat.not_lt_zero i), fun i ha hb => by exfalso; omega⟩
  rintro ⟨t, f⟩ ls ⟨hl, ht, hf, h1, h2⟩ ih
  have hl : lv_has ls 5 [(0, .ref h), (1, .long key), (3, .int (nI f)), (4, .int (nI (2 ^ t / 2)))] := hl
  obtain ⟨P, hPe⟩ : ∃ P, P = 2 ^ t / 2 := ⟨_, rfl⟩
  have hPb : P ≤ 512 := by
    have := Nat.pow_le_pow_right (show 0 < 2 by decide) ht
    omega
  have hev : 0 < P → 2 ^ t = 2 * P ∧ P = 2 ^ (t - 1) ∧ 0 < t := by
    intro q
    cases t with
    | zero => simp at hPe; omega
    | succ t => rw [Nat.pow_succ] at hPe ⊢; simp only [Nat.add_sub_cancel]; omega
  have hpp : 1 ≤ 2 ^ t := Nat.one_le_two_pow
  rw [← hPe] at hl
  refine lv_iload hx hb dX0_below_7 (lv_at hl 3 rfl) ?_
  refine z_if_le (tgt := 53) hx hb dX0_below_9 (by decide) (by omega) (fun c_9 => ?_) (fun c_9 => ?_)
  · refine lv_iload_n hx hb dX0_below_53 rfl (lv_at hl 2 rfl) ?_
    exact W.iret (v := nI f) hx hb hr (fun t ht hW => ⟨nI f, rfl, ⟨f, rfl, hf, h1, fun i ha hb => h2 i (by omega) hb⟩, ht⟩) (fun _ h => nomatch h) dX0_below_54
  · obtain ⟨hev, hev2, hev3⟩ := hev c_9
    refine lv_iload_n hx hb dX0_below_12 rfl (lv_at hl 2 rfl) ?_
    refine lv_iload hx hb dX0_below_13 (lv_at hl 3 rfl) ?_
    refine z_iadd hx hb dX0_below_15 ?_
    refine lv_aload_n hx hb dX0_below_16 rfl (lv_at hl 0 rfl) ?_
    refine va_get (D := D) (ci := 0) (v := .int (nI n)) (C := RX0) (T := TX0) (N := 3) hx hb hts lk1 hown hK hP 0 rfl rfl 2 (by decide) lk0 (fun _ h9 => h9) rfl dX0_below_17 ?_
    refine z_icmp_gt (tgt := 44) hx hb dX0_below_20 (by decide) (by omega) (by omega) (fun c_20 => ?_) (fun c_20 => ?_)
    · refine lv_iload hx hb dX0_below_44 (lv_at hl 3 rfl) ?_
      refine lv_iconst (v := nI 1) hx hb dX0_below_46 (by decide) ?_
      refine lv_ishr hx hb dX0_below_47 ?_
      refine z_topi (y := nI (2 ^ (t - 1) / 2)) ((pk_shrN (by omega) (nI 1 &&& 31) 1 (by decide)).trans (congrArg nI (by omega))) ?_
      refine lv_istore (lv' := [(4, .int (nI (2 ^ (t - 1) / 2))), (0, .ref h), (1, .long key), (3, .int (nI f))]) hx hb dX0_below_48 hl (by decide) rfl (fun ls hl => ?_)
      refine lv_goto (tgt := 7) hx hb dX0_below_50 (by decide) ?_
      exact ih ((t - 1, f)) _ ⟨lv_sub hl [1, 2, 3, 0] rfl, by omega, hf, h1, fun i ha hb => by exfalso; omega⟩ (by first | omega | (dsimp only; omega))
    · refine lv_aload_n hx hb dX0_below_23 rfl (lv_at hl 0 rfl) ?_
      refine va_get (D := D) (ci := 0) (v := .ref ka) (C := RX0) (T := TX0) (N := 3) hx hb hts lk1 hown hK hP 0 rfl rfl 0 (by decide) lk2 (fun _ h9 => h9) rfl dX0_below_24 ?_
      refine lv_iload_n hx hb dX0_below_27 rfl (lv_at hl 2 rfl) ?_
      refine lv_iload hx hb dX0_below_28 (lv_at hl 3 rfl) ?_
      refine z_iadd hx hb dX0_below_30 ?_
      refine lv_iconst (v := nI 1) hx hb dX0_below_31 (by decide) ?_
      refine z_isub hx hb dX0_below_32 (by omega) ?_
      refine z_lald hx hb hK hP 1 rfl (j := (f + P) - 1) (by omega) (by omega) dX0_below_33 ?_
      refine lv_lload_n hx hb dX0_below_34 rfl (lv_at hl 1 rfl) ?_
      refine z_lc_ge (tgt := 44) hx hb dX0_below_35 dX0_below_36 (by decide) (fun c_36 => ?_) (fun c_36 => ?_)
      · refine lv_iload hx hb dX0_below_44 (lv_at hl 3 rfl) ?_
        refine lv_iconst (v := nI 1) hx hb dX0_below_46 (by decide) ?_
        refine lv_ishr hx hb dX0_below_47 ?_
        refine z_topi (y := nI (2 ^ (t - 1) / 2)) ((pk_shrN (by omega) (nI 1 &&& 31) 1 (by decide)).trans (congrArg nI (by omega))) ?_
        refine lv_istore (lv' := [(4, .int (nI (2 ^ (t - 1) / 2))), (0, .ref h), (1, .long key), (3, .int (nI f))]) hx hb dX0_below_48 hl (by decide) rfl (fun ls hl => ?_)
        refine lv_goto (tgt := 7) hx hb dX0_below_50 (by decide) ?_
        exact ih ((t - 1, f)) _ ⟨lv_sub hl [1, 2, 3, 0] rfl, by omega, hf, h1, fun i ha hb => Int64.le_trans (Int64.not_lt.mp c_36) (hs _ _ (by omega) hb)⟩ (by first | omega | (dsimp only; omega))
      · refine lv_iload_n hx hb dX0_below_39 rfl (lv_at hl 2 rfl) ?_
        refine lv_iload hx hb dX0_below_40 (lv_at hl 3 rfl) ?_
        refine z_iadd hx hb dX0_below_42 ?_
        refine lv_istore_n (lv' := [(3, .int (nI (f + P))), (0, .ref h), (1, .long key), (4, .int (nI P))]) hx hb dX0_below_43 rfl hl (by decide) rfl (fun ls hl => ?_)
        refine lv_iload hx hb dX0_below_44 (lv_at hl 3 rfl) ?_
        refine lv_iconst (v := nI 1) hx hb dX0_below_46 (by decide) ?_
        refine lv_ishr hx hb dX0_below_47 ?_
        refine z_topi (y := nI (2 ^ (t - 1) / 2)) ((pk_shrN (by omega) (nI 1 &&& 31) 1 (by decide)).trans (congrArg nI (by omega))) ?_
        refine lv_istore (lv' := [(4, .int (nI (2 ^ (t - 1) / 2))), (3, .int (nI (f + P))), (0, .ref h), (1, .long key)]) hx hb dX0_below_48 hl (by decide) rfl (fun ls hl => ?_)
        refine lv_goto (tgt := 7) hx hb dX0_below_50 (by decide) ?_
        exact ih ((t - 1, f + P)) _ ⟨lv_sub hl [2, 3, 1, 0] rfl, by omega, c_20, fun i hi => Int64.lt_of_le_of_lt (hs i _ (by omega) (by omega)) c_36, fun i ha hb => h2 i (by omega) hb⟩ (by first | omega | (dsimp only; omega))

set_option maxHeartbeats 4000000 in
set_option maxRecDepth 100000 in
theorem c_X0_upTo (l : Launch) (D : va_G) (cI cJ : ClassId) (h ka va cap n : Nat) (K V : Nat → Int64) (key : Int64) (hn : n ≤ cap) (hc : cap ≤ 1023) (hs : Srt n K) : Met l yX0_upTo wsX0_upTo { frames := 1, cells := 0, slots := 0, locals := 24 } (va_Pc [.ref h, .long key] (rP D cI cJ [(h, .inr (0, [.ref ka, .ref va, .int (nI n)])), (ka, .inl (cJ, cap, .inr (.inl K))), (va, .inl (cJ, cap, .inr (.inl V)))])) (vp_Si (fun r => ∃ b, r = nI b ∧ BU n K key b)) 0 0 (fun _ => False) := by
  refine Met.ofW (cc := cX0_upTo) (maxL := 3) (ret := (some .int)) (by decide) rfl ?_
  intro p e s m args below meth c s₁ B hml hv
  obtain ⟨rfl, hP, hK⟩ := hv
  have hx := B.exec
  have hb := B.bytes
  have hr := B.returns
  have hts := atoms_spec (ws := wsX0_upTo) B.pre
  have hown : s.vm.findClass RX0 = some m.cls := findClass_of_methodNamed B.named
  have hlocks := B.notSynchronized
  have lk0 := hts (.constantLong RX0 31 (9223372036854775807)) (by decide +kernel)
  have lk1 := hts (.fieldLink RX0 11 "KeyHall$Sorted" "held" "I") (by decide +kernel)
  have lk2 : ∀ w ∈ wsX00, w ∈ wsX0_upTo := by decide +kernel
  have hl := lv_entry ([.ref h, .long key]) (n := 3) (Nat.le_of_ble_eq_true rfl)
  rw [lg_entry_eq]
  generalize (lg_sl ([.ref h, .long key]) ++ List.replicate (3 - (lg_sl ([.ref h, .long key])).length) Slot.unset).toArray = ls at hl ⊢
  have hl : lv_has ls 3 [(0, .ref h), (1, .long key)] := hl
  refine lv_lload_n hx hb dX0_upTo_0 rfl (lv_at hl 1 rfl) ?_
  refine lv_ldc2 hx hb hown lk0 dX0_upTo_1 ?_
  refine z_lc_ne (tgt := 15) hx hb dX0_upTo_4 dX0_upTo_5 (by decide) (fun c_5 => ?_) (fun c_5 => ?_)
  · refine lv_aload_n hx hb dX0_upTo_15 rfl (lv_at hl 0 rfl) ?_
    refine lv_lload_n hx hb dX0_upTo_16 rfl (lv_at hl 1 rfl) ?_
    refine lv_lconst (v := 1) hx hb dX0_upTo_17 (by decide) ?_
    refine lv_ladd hx hb dX0_upTo_18 ?_
    refine vp_callSi (va_Run.run (va_runV (As := [.long (key + 1)]) (rest := []) ⟨hx, hb, hml, hown, hts⟩ (c_X0_below l D cI cJ h ka va cap n K V (key + 1) (by omega) (by omega) (by assumption)) (cwV 1 hts gX0_upTo_X0_below rfl rfl rfl (by decide +kernel) ⟨Nat.le_of_ble_eq_true rfl, Nat.le_of_ble_eq_true rfl⟩) (z_preV hK hP [0, 1, 2] rfl 0 0 rfl rfl) rfl rfl hl.1 rfl (lv_room (Nat.le_of_ble_eq_true rfl)) dX0_upTo_19 ⟨Nat.zero_le _, Nat.zero_le _⟩)) (fun r_1 hr_1 => ?_)
    obtain ⟨b_2, rfl, hb_2⟩ := hr_1
    have hb_2n := hb_2.1
    exact W.iret (v := nI b_2) hx hb hr (fun t ht hW => ⟨nI b_2, rfl, ⟨b_2, rfl, hb_2.up c_5⟩, ht⟩) (fun _ h => nomatch h) dX0_upTo_22
  · refine lv_aload_n hx hb dX0_upTo_8 rfl (lv_at hl 0 rfl) ?_
    refine va_get (D := D) (ci := 0) (v := .int (nI n)) (C := RX0) (T := TX0) (N := 3) hx hb hts lk2 hown hK hP 0 rfl rfl 2 (by decide) lk1 (fun _ h9 => h9) rfl dX0_upTo_9 ?_
    refine lv_goto (tgt := 22) hx hb dX0_upTo_12 (by decide) ?_
    exact W.iret (v := nI n) hx hb hr (fun t ht hW => ⟨nI n, rfl, ⟨n, rfl, by rw [c_5]; exact BU.top⟩, ht⟩) (fun _ h => nomatch h) dX0_upTo_22

theorem BL.miss {n : Nat} {K : Nat → Int64} {key : Int64} {b : Nat} (hs : Srt n K) (h : BL n K key b) (hk : b < n → K b ≠ key) : ∀ j, j < n → K j ≠ key := by
  intro j hj q
  have h1 : b ≤ j := Nat.not_lt.mp fun z => absurd (h.2.1 j z) (by rw [q]; exact Int64.lt_irrefl)
  have hb : b < n := Nat.lt_of_le_of_lt h1 hj
  exact hk hb (Int64.le_antisymm (by rw [← q]; exact hs b j h1 hj) (h.2.2 b (Nat.le_refl _) hb))

set_option maxHeartbeats 4000000 in
set_option maxRecDepth 100000 in
theorem c_X0_find (l : Launch) (D : va_G) (cI cJ : ClassId) (h ka va cap n : Nat) (K V : Nat → Int64) (key : Int64) (hn : n ≤ cap) (hc : cap ≤ 1023) (hs : Srt n K) : Met l yX0_find wsX0_find { frames := 2, cells := 0, slots := 0, locals := 44 } (va_Pc [.ref h, .long key] (rP D cI cJ [(h, .inr (0, [.ref ka, .ref va, .int (nI n)])), (ka, .inl (cJ, cap, .inr (.inl K))), (va, .inl (cJ, cap, .inr (.inl V)))])) (vp_Si (fun r => FiR n K key r)) 0 0 (fun _ => False) := by
  refine Met.ofW (cc := cX0_find) (maxL := 4) (ret := (some .int)) (by decide) rfl ?_
  intro p e s m args below meth c s₁ B hml hv
  obtain ⟨rfl, hP, hK⟩ := hv
  have hx := B.exec
  have hb := B.bytes
  have hr := B.returns
  have hts := atoms_spec (ws := wsX0_find) B.pre
  have hown : s.vm.findClass RX0 = some m.cls := findClass_of_methodNamed B.named
  have hlocks := B.notSynchronized
  have hl := lv_entry ([.ref h, .long key]) (n := 4) (Nat.le_of_ble_eq_true rfl)
  rw [lg_entry_eq]
  generalize (lg_sl ([.ref h, .long key]) ++ List.replicate (4 - (lg_sl ([.ref h, .long key])).length) Slot.unset).toArray = ls at hl ⊢
  have hl : lv_has ls 4 [(0, .ref h), (1, .long key)] := hl
  refine lv_aload_n hx hb dX0_find_0 rfl (lv_at hl 0 rfl) ?_
  refine lv_lload_n hx hb dX0_find_1 rfl (lv_at hl 1 rfl) ?_
  refine vp_callSi (va_Run.run (va_runV (As := [.long key]) (rest := []) ⟨hx, hb, hml, hown, hts⟩ (c_X0_below l D cI cJ h ka va cap n K V key (by omega) (by omega) (by assumption)) (cwV 1 hts gX0_find_X0_below rfl rfl rfl (by decide +kernel) ⟨Nat.le_of_ble_eq_true rfl, Nat.le_of_ble_eq_true rfl⟩) (z_preV hK hP [0, 1, 2] rfl 0 0 rfl rfl) rfl rfl hl.1 rfl (lv_room (Nat.le_of_ble_eq_true rfl)) dX0_find_2 ⟨Nat.zero_le _, Nat.zero_le _⟩)) (fun r_1 hr_1 => ?_)
  obtain ⟨b_2, rfl, hb_2⟩ := hr_1
  have hb_2n := hb_2.1
  refine lv_istore_n (lv' := [(3, .int (nI b_2)), (0, .ref h), (1, .long key)]) hx hb dX0_find_5 rfl hl (by decide) rfl (fun ls hl => ?_)
  refine lv_aload_n hx hb dX0_find_6 rfl (lv_at hl 1 rfl) ?_
  refine lv_iload_n hx hb dX0_find_7 rfl (lv_at hl 0 rfl) ?_
  refine lv_lload_n hx hb dX0_find_8 rfl (lv_at hl 2 rfl) ?_
  refine vp_callSi (va_Run.run (va_runV (As := [.int (nI b_2), .long key]) (rest := []) ⟨hx, hb, hml, hown, hts⟩ (c_X0_isKeyAt l D cI cJ h ka va cap n K V b_2 key (by omega) (by omega) (by omega)) (cwV 2 hts gX0_find_X0_isKeyAt rfl rfl rfl (by decide +kernel) ⟨Nat.le_of_ble_eq_true rfl, Nat.le_of_ble_eq_true rfl⟩) (z_preV hK hP [0, 1, 2] rfl 0 0 rfl rfl) rfl rfl hl.1 rfl (lv_room (Nat.le_of_ble_eq_true rfl)) dX0_find_9 ⟨Nat.zero_le _, Nat.zero_le _⟩)) (fun r_3 hr_3 => ?_)
  rcases hr_3 with ⟨hk1, hk2, rfl⟩ | ⟨hk1, rfl⟩
  · refine lv_if_eq (tgt := 19) hx hb dX0_find_12 (by decide) (fun q => absurd q (by decide)) (fun _ => ?_)
    refine lv_iload_n hx hb dX0_find_15 rfl (lv_at hl 0 rfl) ?_
    refine lv_goto (tgt := 20) hx hb dX0_find_16 (by decide) ?_
    exact W.iret (v := nI b_2) hx hb hr (fun t ht hW => ⟨nI b_2, rfl, Or.inl ⟨b_2, hk1, hk2, rfl⟩, ht⟩) (fun _ h => nomatch h) dX0_find_20
  · refine lv_if_eq (tgt := 19) hx hb dX0_find_12 (by decide) (fun _ => ?_) (fun q => absurd (by decide) q)
    refine lv_iconst (v := (-1)) hx hb dX0_find_19 (by decide) ?_
    exact W.iret (v := (-1)) hx hb hr (fun t ht hW => ⟨(-1), rfl, Or.inr ⟨BL.miss hs hb_2 hk1, rfl⟩, ht⟩) (fun _ h => nomatch h) dX0_find_20

set_option maxHeartbeats 4000000 in
set_option maxRecDepth 100000 in
theorem c_X0_holds (l : Launch) (D : va_G) (cI cJ : ClassId) (h ka va cap n : Nat) (K V : Nat → Int64) (key : Int64) (hn : n ≤ cap) (hc : cap ≤ 1023) (hs : Srt n K) : Met l yX0_holds wsX0_holds { frames := 3, cells := 0, slots := 0, locals := 67 } (va_Pc [.ref h, .long key] (rP D cI cJ [(h, .inr (0, [.ref ka, .ref va, .int (nI n)])), (ka, .inl (cJ, cap, .inr (.inl K))), (va, .inl (cJ, cap, .inr (.inl V)))])) (vp_Si (fun r => ((∃ j, j < n ∧ K j = key) ∧ r = nI 1) ∨ ((∀ j, j < n → K j ≠ key) ∧ r = nI 0))) 0 0 (fun _ => False) := by
  refine Met.ofW (cc := cX0_holds) (maxL := 3) (ret := (some .boolean)) (by decide) rfl ?_
  intro p e s m args below meth c s₁ B hml hv
  obtain ⟨rfl, hP, hK⟩ := hv
  have hx := B.exec
  have hb := B.bytes
  have hr := B.returns
  have hts := atoms_spec (ws := wsX0_holds) B.pre
  have hown : s.vm.findClass RX0 = some m.cls := findClass_of_methodNamed B.named
  have hlocks := B.notSynchronized
  have hl := lv_entry ([.ref h, .long key]) (n := 3) (Nat.le_of_ble_eq_true rfl)
  rw [lg_entry_eq]
  generalize (lg_sl ([.ref h, .long key]) ++ List.replicate (3 - (lg_sl ([.ref h, .long key])).length) Slot.unset).toArray = ls at hl ⊢
  have hl : lv_has ls 3 [(0, .ref h), (1, .long key)] := hl
  refine lv_aload_n hx hb dX0_holds_0 rfl (lv_at hl 0 rfl) ?_
  refine lv_lload_n hx hb dX0_holds_1 rfl (lv_at hl 1 rfl) ?_
  refine vp_callSi (va_Run.run (va_runV (As := [.long key]) (rest := []) ⟨hx, hb, hml, hown, hts⟩ (c_X0_find l D cI cJ h ka va cap n K V key (by omega) (by omega) (by assumption)) (cwV 1 hts gX0_holds_X0_find rfl rfl rfl (by decide +kernel) ⟨Nat.le_of_ble_eq_true rfl, Nat.le_of_ble_eq_true rfl⟩) (z_preV hK hP [0, 1, 2] rfl 0 0 rfl rfl) rfl rfl hl.1 rfl (lv_room (Nat.le_of_ble_eq_true rfl)) dX0_holds_2 ⟨Nat.zero_le _, Nat.zero_le _⟩)) (fun r_1 hr_1 => ?_)
  rcases hr_1 with ⟨j_2, hj, hje, rfl⟩ | ⟨hnf, rfl⟩
  · have hj31 : j_2 < 2 ^ 31 := by omega
    refine z_if_lt (tgt := 12) hx hb dX0_holds_5 (by decide) (by omega) ?_
    refine lv_iconst (v := nI 1) hx hb dX0_holds_8 (by decide) ?_
    refine lv_goto (tgt := 13) hx hb dX0_holds_9 (by decide) ?_
    exact W.zret (v := nI 1) hx hb hr (by decide) (fun t ht hW => ⟨nI 1, rfl, Or.inl ⟨⟨j_2, hj, hje⟩, rfl⟩, ht⟩) (fun _ h => nomatch h) dX0_holds_13
  · refine lv_if_lt (tgt := 12) hx hb dX0_holds_5 (by decide) (fun _ => ?_) (fun q => absurd (by decide) q)
    refine lv_iconst (v := nI 0) hx hb dX0_holds_12 (by decide) ?_
    exact W.zret (v := nI 0) hx hb hr (by decide) (fun t ht hW => ⟨nI 0, rfl, Or.inr ⟨hnf, rfl⟩, ht⟩) (fun _ h => nomatch h) dX0_holds_13

set_option maxHeartbeats 4000000 in
set_option maxRecDepth 100000 in
theorem c_X0_findValue (l : Launch) (D : va_G) (cI cJ : ClassId) (h ka va cap n : Nat) (K V : Nat → Int64) (x : Int64) (hn : n ≤ cap) (hc : cap ≤ 1023) : Met l yX0_findValue wsX0_findValue { frames := 0, cells := 0, slots := 0, locals := 0 } (va_Pc [.ref h, .long x] (rP D cI cJ [(h, .inr (0, [.ref ka, .ref va, .int (nI n)])), (ka, .inl (cJ, cap, .inr (.inl K))), (va, .inl (cJ, cap, .inr (.inl V)))])) (vp_Si (fun r => (∃ j, j < n ∧ V j = x ∧ r = nI j) ∨ ((∀ j, j < n → V j ≠ x) ∧ r = (-1)))) 0 0 (fun _ => False) := by
  refine Met.ofW (cc := cX0_findValue) (maxL := 4) (ret := (some .int)) (by decide) rfl ?_
  intro p e s m args below meth c s₁ B hml hv
  obtain ⟨rfl, hP, hK⟩ := hv
  have hx := B.exec
  have hb := B.bytes
  have hr := B.returns
  have hts := atoms_spec (ws := wsX0_findValue) B.pre
  have hown : s.vm.findClass RX0 = some m.cls := findClass_of_methodNamed B.named
  have hlocks := B.notSynchronized
  have lk0 := hts (.fieldLink RX0 11 "KeyHall$Sorted" "held" "I") (by decide +kernel)
  have lk1 : ∀ w ∈ wsX00, w ∈ wsX0_findValue := by decide +kernel
  have lk2 := hts (.fieldLink RX0 28 "KeyHall$Sorted" "values" "[J") (by decide +kernel)
  have hl := lv_entry ([.ref h, .long x]) (n := 4) (Nat.le_of_ble_eq_true rfl)
  rw [lg_entry_eq]
  generalize (lg_sl ([.ref h, .long x]) ++ List.replicate (4 - (lg_sl ([.ref h, .long x])).length) Slot.unset).toArray = ls at hl ⊢
  have hl : lv_has ls 4 [(0, .ref h), (1, .long x)] := hl
  refine lv_iconst (v := nI 0) hx hb dX0_findValue_0 (by decide) ?_
  refine lv_istore_n (lv' := [(3, .int (nI 0)), (0, .ref h), (1, .long x)]) hx hb dX0_findValue_1 rfl hl (by decide) rfl (fun ls hl => ?_)
  refine z_loop (σ := Nat) (fun i => n - i) (fun i ls => lv_has ls 4 [(0, .ref h), (1, .long x), (3, .int (nI i))] ∧ (i ≤ n) ∧ (∀ j, j < i → V j ≠ x)) ?_ (0) _ ⟨lv_sub hl [1, 2, 0] rfl, Nat.zero_le _, fun j h => absurd h (Nat.not_lt_zero j)⟩
  rintro i ls ⟨hl, hi, h1⟩ ih
  have hl : lv_has ls 4 [(0, .ref h), (1, .long x), (3, .int (nI i))] := hl
  refine lv_iload_n hx hb dX0_findValue_2 rfl (lv_at hl 2 rfl) ?_
  refine lv_aload_n hx hb dX0_findValue_3 rfl (lv_at hl 0 rfl) ?_
  refine va_get (D := D) (ci := 0) (v := .int (nI n)) (C := RX0) (T := TX0) (N := 3) hx hb hts lk1 hown hK hP 0 rfl rfl 2 (by decide) lk0 (fun _ h9 => h9) rfl dX0_findValue_4 ?_
  refine z_icmp_ge (tgt := 29) hx hb dX0_findValue_7 (by decide) (by omega) (by omega) (fun c_7 => ?_) (fun c_7 => ?_)
  · refine lv_iconst (v := (-1)) hx hb dX0_findValue_29 (by decide) ?_
    exact W.iret (v := (-1)) hx hb hr (fun t ht hW => ⟨(-1), rfl, Or.inr ⟨fun j hj => h1 j (by omega), rfl⟩, ht⟩) (fun _ h => nomatch h) dX0_findValue_30
  · refine lv_aload_n hx hb dX0_findValue_10 rfl (lv_at hl 0 rfl) ?_
    refine va_get (D := D) (ci := 0) (v := .ref va) (C := RX0) (T := TX0) (N := 3) hx hb hts lk1 hown hK hP 0 rfl rfl 1 (by decide) lk2 (fun _ h9 => h9) rfl dX0_findValue_11 ?_
    refine lv_iload_n hx hb dX0_findValue_14 rfl (lv_at hl 2 rfl) ?_
    refine z_lald hx hb hK hP 2 rfl (j := i) (by omega) (by omega) dX0_findValue_15 ?_
    refine lv_lload_n hx hb dX0_findValue_16 rfl (lv_at hl 1 rfl) ?_
    refine z_lc_ne (tgt := 23) hx hb dX0_findValue_17 dX0_findValue_18 (by decide) (fun c_18 => ?_) (fun c_18 => ?_)
    · refine lv_iinc (v := nI (i + 1)) (lv' := [(3, .int (nI (i + 1))), (0, .ref h), (1, .long x)]) hx hb dX0_findValue_23 hl (k := 2) rfl (nI_add i 1) (by decide) rfl (fun ls hl => ?_)
      refine lv_goto (tgt := 2) hx hb dX0_findValue_26 (by decide) ?_
      exact ih (i + 1) _ ⟨lv_sub hl [1, 2, 0] rfl, c_7, fun j hj => (Nat.lt_succ_iff_lt_or_eq.mp hj).elim (h1 j) (fun q => q ▸ c_18)⟩ (by first | omega | (dsimp only; omega))
    · refine lv_iload_n hx hb dX0_findValue_21 rfl (lv_at hl 2 rfl) ?_
      exact W.iret (v := nI i) hx hb hr (fun t ht hW => ⟨nI i, rfl, Or.inl ⟨i, c_7, c_18, rfl⟩, ht⟩) (fun _ h => nomatch h) dX0_findValue_22

theorem grp_le (g : Nat → Int64) : ∀ n, grp g n ≤ n
  | 0 => Nat.le_refl _
  | n + 1 => by
    have := grp_le g n
    unfold grp
    split <;> omega

set_option maxHeartbeats 4000000 in
set_option maxRecDepth 100000 in
theorem c_X0_groups (l : Launch) (D : va_G) (cI cJ : ClassId) (h ka va cap n : Nat) (K V : Nat → Int64) (x : Int32) (hn : n ≤ cap) (hc : cap ≤ 1023) : Met l yX0_groups wsX0_groups { frames := 0, cells := 0, slots := 0, locals := 0 } (va_Pc [.ref h, .int x] (rP D cI cJ [(h, .inr (0, [.ref ka, .ref va, .int (nI n)])), (ka, .inl (cJ, cap, .inr (.inl K))), (va, .inl (cJ, cap, .inr (.inl V)))])) (vp_Si (fun r => r = nI (grp (fun i => K i >>> (x.toInt64 &&& 63)) n))) 0 0 (fun _ => False) := by
  refine Met.ofW (cc := cX0_groups) (maxL := 4) (ret := (some .int)) (by decide) rfl ?_
  intro p e s m args below meth c s₁ B hml hv
  obtain ⟨rfl, hP, hK⟩ := hv
  have hx := B.exec
  have hb := B.bytes
  have hr := B.returns
  have hts := atoms_spec (ws := wsX0_groups) B.pre
  have hown : s.vm.findClass RX0 = some m.cls := findClass_of_methodNamed B.named
  have hlocks := B.notSynchronized
  have lk0 := hts (.fieldLink RX0 11 "KeyHall$Sorted" "held" "I") (by decide +kernel)
  have lk1 : ∀ w ∈ wsX00, w ∈ wsX0_groups := by decide +kernel
  have lk2 := hts (.fieldLink RX0 24 "KeyHall$Sorted" "keys" "[J") (by decide +kernel)
  have hl := lv_entry ([.ref h, .int x]) (n := 4) (Nat.le_of_ble_eq_true rfl)
  rw [lg_entry_eq]
  generalize (lg_sl ([.ref h, .int x]) ++ List.replicate (4 - (lg_sl ([.ref h, .int x])).length) Slot.unset).toArray = ls at hl ⊢
  have hl : lv_has ls 4 [(0, .ref h), (1, .int x)] := hl
  refine lv_iconst (v := nI 0) hx hb dX0_groups_0 (by decide) ?_
  refine lv_istore_n (lv' := [(2, .int (nI 0)), (0, .ref h), (1, .int x)]) hx hb dX0_groups_1 rfl hl (by decide) rfl (fun ls hl => ?_)
  refine lv_iconst (v := nI 0) hx hb dX0_groups_2 (by decide) ?_
  refine lv_istore_n (lv' := [(3, .int (nI 0)), (2, .int (nI 0)), (0, .ref h), (1, .int x)]) hx hb dX0_groups_3 rfl hl (by decide) rfl (fun ls hl => ?_)
  refine z_loop (σ := Nat) (fun i => n - i) (fun i ls => lv_has ls 4 [(0, .ref h), (1, .int x), (2, .int (nI (grp (fun i => K i >>> (x.toInt64 &&& 63)) i))), (3, .int (nI i))] ∧ (i ≤ n)) ?_ (0) _ ⟨lv_sub hl [2, 3, 1, 0] rfl, Nat.zero_le _⟩
  rintro i ls ⟨hl, hi⟩ ih
  have hl : lv_has ls 4 [(0, .ref h), (1, .int x), (2, .int (nI (grp (fun i => K i >>> (x.toInt64 &&& 63)) i))), (3, .int (nI i))] := hl
  have hgl := grp_le (fun i => K i >>> (x.toInt64 &&& 63)) i
  refine lv_iload_n hx hb dX0_groups_4 rfl (lv_at hl 3 rfl) ?_
  refine lv_aload_n hx hb dX0_groups_5 rfl (lv_at hl 0 rfl) ?_
  refine va_get (D := D) (ci := 0) (v := .int (nI n)) (C := RX0) (T := TX0) (N := 3) hx hb hts lk1 hown hK hP 0 rfl rfl 2 (by decide) lk0 (fun _ h9 => h9) rfl dX0_groups_6 ?_
  refine z_icmp_ge (tgt := 47) hx hb dX0_groups_9 (by decide) (by omega) (by omega) (fun c_9 => ?_) (fun c_9 => ?_)
  · refine lv_iload_n hx hb dX0_groups_47 rfl (lv_at hl 2 rfl) ?_
    exact W.iret (v := nI (grp (fun i => K i >>> (x.toInt64 &&& 63)) i)) hx hb hr (fun t ht hW => ⟨nI (grp (fun i => K i >>> (x.toInt64 &&& 63)) i), rfl, congrArg nI (congrArg (grp (fun i => K i >>> (x.toInt64 &&& 63))) (Nat.le_antisymm hi c_9)), ht⟩) (fun _ h => nomatch h) dX0_groups_48
  · refine lv_iload_n hx hb dX0_groups_12 rfl (lv_at hl 3 rfl) ?_
    refine z_if_eq (tgt := 38) hx hb dX0_groups_13 (by decide) (by omega) (fun c_13 => ?_) (fun c_13 => ?_)
    · refine lv_iinc (v := nI (grp (fun i => K i >>> (x.toInt64 &&& 63)) i + 1)) (lv' := [(2, .int (nI (grp (fun i => K i >>> (x.toInt64 &&& 63)) i + 1))), (0, .ref h), (1, .int x), (3, .int (nI i))]) hx hb dX0_groups_38 hl (k := 2) rfl (nI_add (grp (fun i => K i >>> (x.toInt64 &&& 63)) i) 1) (by decide) rfl (fun ls hl => ?_)
      have hge : grp (fun i => K i >>> (x.toInt64 &&& 63)) (i + 1) = grp (fun i => K i >>> (x.toInt64 &&& 63)) i + 1 := by
        show (if i = 0 ∨ _ then _ else _) = _
        rw [if_pos (Or.inl c_13)]
      rw [← hge] at hl
      refine lv_iinc (v := nI (i + 1)) (lv' := [(3, .int (nI (i + 1))), (2, .int (nI (grp (fun i => K i >>> (x.toInt64 &&& 63)) (i + 1)))), (0, .ref h), (1, .int x)]) hx hb dX0_groups_41 hl (k := 3) rfl (nI_add i 1) (by decide) rfl (fun ls hl => ?_)
      refine lv_goto (tgt := 4) hx hb dX0_groups_44 (by decide) ?_
      exact ih (i + 1) _ ⟨lv_sub hl [2, 3, 1, 0] rfl, c_9⟩ (by first | omega | (dsimp only; omega))
    · refine lv_aload_n hx hb dX0_groups_16 rfl (lv_at hl 0 rfl) ?_
      refine va_get (D := D) (ci := 0) (v := .ref ka) (C := RX0) (T := TX0) (N := 3) hx hb hts lk1 hown hK hP 0 rfl rfl 0 (by decide) lk2 (fun _ h9 => h9) rfl dX0_groups_17 ?_
      refine lv_iload_n hx hb dX0_groups_20 rfl (lv_at hl 3 rfl) ?_
      refine z_lald hx hb hK hP 1 rfl (j := i) (by omega) (by omega) dX0_groups_21 ?_
      refine lv_iload_n hx hb dX0_groups_22 rfl (lv_at hl 1 rfl) ?_
      refine lv_lshr (v := (K i) >>> (x.toInt64 &&& 63)) hx hb dX0_groups_23 rfl ?_
      refine lv_aload_n hx hb dX0_groups_24 rfl (lv_at hl 0 rfl) ?_
      refine va_get (D := D) (ci := 0) (v := .ref ka) (C := RX0) (T := TX0) (N := 3) hx hb hts lk1 hown hK hP 0 rfl rfl 0 (by decide) lk2 (fun _ h9 => h9) rfl dX0_groups_25 ?_
      refine lv_iload_n hx hb dX0_groups_28 rfl (lv_at hl 3 rfl) ?_
      refine lv_iconst (v := nI 1) hx hb dX0_groups_29 (by decide) ?_
      refine z_isub hx hb dX0_groups_30 (by omega) ?_
      refine z_lald hx hb hK hP 1 rfl (j := i - 1) (by omega) (by omega) dX0_groups_31 ?_
      refine lv_iload_n hx hb dX0_groups_32 rfl (lv_at hl 1 rfl) ?_
      refine lv_lshr (v := (K (i - 1)) >>> (x.toInt64 &&& 63)) hx hb dX0_groups_33 rfl ?_
      refine z_lc_eq (tgt := 41) hx hb dX0_groups_34 dX0_groups_35 (by decide) (fun c_35 => ?_) (fun c_35 => ?_)
      · have hge : grp (fun i => K i >>> (x.toInt64 &&& 63)) (i + 1) = grp (fun i => K i >>> (x.toInt64 &&& 63)) i := by
          show (if i = 0 ∨ _ then _ else _) = _
          rw [if_neg (fun q => q.elim (fun z => absurd z (Nat.pos_iff_ne_zero.mp c_13)) (fun z => z c_35))]
        rw [← hge] at hl
        refine lv_iinc (v := nI (i + 1)) (lv' := [(3, .int (nI (i + 1))), (0, .ref h), (1, .int x), (2, .int (nI (grp (fun i => K i >>> (x.toInt64 &&& 63)) (i + 1))))]) hx hb dX0_groups_41 hl (k := 3) rfl (nI_add i 1) (by decide) rfl (fun ls hl => ?_)
        refine lv_goto (tgt := 4) hx hb dX0_groups_44 (by decide) ?_
        exact ih (i + 1) _ ⟨lv_sub hl [1, 2, 3, 0] rfl, c_9⟩ (by first | omega | (dsimp only; omega))
      · refine lv_iinc (v := nI (grp (fun i => K i >>> (x.toInt64 &&& 63)) i + 1)) (lv' := [(2, .int (nI (grp (fun i => K i >>> (x.toInt64 &&& 63)) i + 1))), (0, .ref h), (1, .int x), (3, .int (nI i))]) hx hb dX0_groups_38 hl (k := 2) rfl (nI_add (grp (fun i => K i >>> (x.toInt64 &&& 63)) i) 1) (by decide) rfl (fun ls hl => ?_)
        have hge : grp (fun i => K i >>> (x.toInt64 &&& 63)) (i + 1) = grp (fun i => K i >>> (x.toInt64 &&& 63)) i + 1 := by
          show (if i = 0 ∨ _ then _ else _) = _
          rw [if_pos (Or.inr c_35)]
        rw [← hge] at hl
        refine lv_iinc (v := nI (i + 1)) (lv' := [(3, .int (nI (i + 1))), (2, .int (nI (grp (fun i => K i >>> (x.toInt64 &&& 63)) (i + 1)))), (0, .ref h), (1, .int x)]) hx hb dX0_groups_41 hl (k := 3) rfl (nI_add i 1) (by decide) rfl (fun ls hl => ?_)
        refine lv_goto (tgt := 4) hx hb dX0_groups_44 (by decide) ?_
        exact ih (i + 1) _ ⟨lv_sub hl [2, 3, 1, 0] rfl, c_9⟩ (by first | omega | (dsimp only; omega))

set_option maxHeartbeats 4000000 in
set_option maxRecDepth 100000 in
theorem c_X0_insert (l : Launch) (D : va_G) (cI cJ : ClassId) (h ka va cap n : Nat) (K V : Nat → Int64) (b : Nat) (key v : Int64) (hn : n ≤ cap) (hc : cap ≤ 1023) (hb1 : b ≤ n) (hn1 : n < cap) (sz : Nat) : Met l yX0_insert wsX0_insert { frames := 1, cells := 0, slots := 0, locals := 26 } (va_Pc [.ref h, .int (nI b), .long key, .long v] (wP D cI cJ [(h, .inr (0, [.ref ka, .ref va, .int (nI n)])), (ka, .inl (cJ, cap, .inr (.inl K))), (va, .inl (cJ, cap, .inr (.inl V)))] sz)) (va_Qv (fun (u : SS) => u = (n + 1, inS K n b key, inS V n b v)) (wB D cI cJ (va_A [(h, .inr (0, [.ref ka, .ref va, .int (nI n)])), (ka, .inl (cJ, cap, .inr (.inl K))), (va, .inl (cJ, cap, .inr (.inl V)))] sz) (fun (n', K', V') => [(h, .inr (0, [.ref ka, .ref va, .int (nI n')])), (ka, .inl (cJ, cap, .inr (.inl K'))), (va, .inl (cJ, cap, .inr (.inl V')))])) (va_A [(h, .inr (0, [.ref ka, .ref va, .int (nI n)])), (ka, .inl (cJ, cap, .inr (.inl K))), (va, .inl (cJ, cap, .inr (.inl V)))] sz)) 0 0 (va_A [(h, .inr (0, [.ref ka, .ref va, .int (nI n)])), (ka, .inl (cJ, cap, .inr (.inl K))), (va, .inl (cJ, cap, .inr (.inl V)))] sz) := by
  refine Met.ofW (cc := cX0_insert) (maxL := 6) (ret := none) (by decide) rfl ?_
  intro p e s m args below meth c s₁ B hml hv
  obtain ⟨rfl, hsz, hP, hK, hD0⟩ := hv
  have hx := B.exec
  have hb := B.bytes
  have hr := B.returns
  have hts := atoms_spec (ws := wsX0_insert) B.pre
  have hown : s.vm.findClass RX0 = some m.cls := findClass_of_methodNamed B.named
  have hlocks := B.notSynchronized
  have lk0 := hts (.fieldLink RX0 11 "KeyHall$Sorted" "held" "I") (by decide +kernel)
  have lk1 : ∀ w ∈ wsX00, w ∈ wsX0_insert := by decide +kernel
  have lk2 := hts (.fieldLink RX0 24 "KeyHall$Sorted" "keys" "[J") (by decide +kernel)
  have lk3 := hts (.methodLink RX0 54 arraycopyName) (by decide +kernel)
  have lk4 := hts (.native arraycopyName) (by decide +kernel)
  have lk5 := hts (.static arraycopyName) (by decide +kernel)
  have lk6 := hts (.initialized "java/lang/System") (by decide +kernel)
  have lk7 := hts (.fieldLink RX0 28 "KeyHall$Sorted" "values" "[J") (by decide +kernel)
  subst hsz
  have hD := hD0.self (sz := s.heap.size)
  generalize hAe : va_A [(h, .inr (0, [.ref ka, .ref va, .int (nI n)])), (ka, .inl (cJ, cap, .inr (.inl K))), (va, .inl (cJ, cap, .inr (.inl V)))] s.heap.size = A at hD ⊢
  have hA : ∀ q : Nat, s.heap.size ≤ q → A q := fun q h => by rw [← hAe]; exact Or.inr h
  have hS : va_S A s.heap s.heap [] := va_S.rf
  have hP : va_P D vwCl [(h, .inr (0, [.ref ka, .ref va, .int (nI n)])), (ka, .inl (cJ, cap, .inr (.inl K))), (va, .inl (cJ, cap, .inr (.inl V)))] s.heap := hP
  have hl := lv_entry ([.ref h, .int (nI b), .long key, .long v]) (n := 6) (Nat.le_of_ble_eq_true rfl)
  rw [lg_entry_eq]
  generalize (lg_sl ([.ref h, .int (nI b), .long key, .long v]) ++ List.replicate (6 - (lg_sl ([.ref h, .int (nI b), .long key, .long v])).length) Slot.unset).toArray = ls at hl ⊢
  have hl : lv_has ls 6 [(0, .ref h), (1, .int (nI b)), (2, .long key), (4, .long v)] := hl
  refine lv_iload_n hx hb dX0_insert_0 rfl (lv_at hl 1 rfl) ?_
  refine z_if_lt (tgt := 24) hx hb dX0_insert_1 (by decide) (by omega) ?_
  refine lv_iload_n hx hb dX0_insert_4 rfl (lv_at hl 1 rfl) ?_
  refine lv_aload_n hx hb dX0_insert_5 rfl (lv_at hl 0 rfl) ?_
  refine va_get (D := D) (ci := 0) (v := .int (nI n)) (C := RX0) (T := TX0) (N := 3) hx hb hts lk1 hown hK hP 0 rfl rfl 2 (by decide) lk0 (fun _ h9 => h9) rfl dX0_insert_6 ?_
  refine z_icmp_gt (tgt := 24) hx hb dX0_insert_9 (by decide) (by omega) (by omega) (fun c_9 => ?_) (fun c_9 => ?_)
  · exact W.vret hx hb hr (fun t ht hW => ⟨⟨(n, K, V), rfl, by exfalso; omega, by rw [ht]; exact hP, va_K.moved hW.alike hK, hD⟩, hS.F ht⟩) hS.2.2 dX0_insert_24
  · refine lv_aload_n hx hb dX0_insert_12 rfl (lv_at hl 0 rfl) ?_
    refine va_get (D := D) (ci := 0) (v := .int (nI n)) (C := RX0) (T := TX0) (N := 3) hx hb hts lk1 hown hK hP 0 rfl rfl 2 (by decide) lk0 (fun _ h9 => h9) rfl dX0_insert_13 ?_
    refine lv_aload_n hx hb dX0_insert_16 rfl (lv_at hl 0 rfl) ?_
    refine va_get (D := D) (ci := 0) (v := .ref ka) (C := RX0) (T := TX0) (N := 3) hx hb hts lk1 hown hK hP 0 rfl rfl 0 (by decide) lk2 (fun _ h9 => h9) rfl dX0_insert_17 ?_
    refine va_alen (v := nI cap) hx hb hK hP 1 1 rfl rfl rfl dX0_insert_20 ?_
    refine z_icmp_lt (tgt := 25) hx hb dX0_insert_21 (by decide) (by omega) (by omega) (fun c_21 => ?_) (fun c_21 => ?_)
    · refine lv_aload_n hx hb dX0_insert_25 rfl (lv_at hl 0 rfl) ?_
      refine va_get (D := D) (ci := 0) (v := .ref ka) (C := RX0) (T := TX0) (N := 3) hx hb hts lk1 hown hK hP 0 rfl rfl 0 (by decide) lk2 (fun _ h9 => h9) rfl dX0_insert_26 ?_
      refine lv_iload_n hx hb dX0_insert_29 rfl (lv_at hl 1 rfl) ?_
      refine lv_aload_n hx hb dX0_insert_30 rfl (lv_at hl 0 rfl) ?_
      refine va_get (D := D) (ci := 0) (v := .ref ka) (C := RX0) (T := TX0) (N := 3) hx hb hts lk1 hown hK hP 0 rfl rfl 0 (by decide) lk2 (fun _ h9 => h9) rfl dX0_insert_31 ?_
      refine lv_iload_n hx hb dX0_insert_34 rfl (lv_at hl 1 rfl) ?_
      refine lv_iconst (v := nI 1) hx hb dX0_insert_35 (by decide) ?_
      refine z_iadd hx hb dX0_insert_36 ?_
      refine lv_aload_n hx hb dX0_insert_37 rfl (lv_at hl 0 rfl) ?_
      refine va_get (D := D) (ci := 0) (v := .int (nI n)) (C := RX0) (T := TX0) (N := 3) hx hb hts lk1 hown hK hP 0 rfl rfl 2 (by decide) lk0 (fun _ h9 => h9) rfl dX0_insert_38 ?_
      refine lv_iload_n hx hb dX0_insert_41 rfl (lv_at hl 1 rfl) ?_
      refine z_isub hx hb dX0_insert_42 (by omega) ?_
      refine z_copyl hx hb (by rw [hml]; exact hl.1.symm) hown lk3 lk4 lk5 lk6 hK hP hD hS 1 rfl (sp := b) (dp := (b + 1)) (n := (n - b)) (by omega) (by omega) (by omega) (Nat.le_of_ble_eq_true rfl) (Nat.le_of_ble_eq_true rfl) dX0_insert_43 (fun H locs hP hD hS => ?_)
      have hP : va_P D vwCl [(h, .inr (0, [.ref ka, .ref va, .int (nI n)])), (ka, .inl (cJ, cap, .inr (.inl (va_cpy K K b (b + 1) (n - b))))), (va, .inl (cJ, cap, .inr (.inl V)))] H := hP
      have hD : va_D A [(h, .inr (0, [.ref ka, .ref va, .int (nI n)])), (ka, .inl (cJ, cap, .inr (.inl (va_cpy K K b (b + 1) (n - b))))), (va, .inl (cJ, cap, .inr (.inl V)))] := hD
      refine lv_aload_n hx hb dX0_insert_46 rfl (lv_at hl 0 rfl) ?_
      refine va_get (D := D) (ci := 0) (v := .ref va) (C := RX0) (T := TX0) (N := 3) hx hb hts lk1 hown hK hP 0 rfl rfl 1 (by decide) lk7 (fun _ h9 => h9) rfl dX0_insert_47 ?_
      refine lv_iload_n hx hb dX0_insert_50 rfl (lv_at hl 1 rfl) ?_
      refine lv_aload_n hx hb dX0_insert_51 rfl (lv_at hl 0 rfl) ?_
      refine va_get (D := D) (ci := 0) (v := .ref va) (C := RX0) (T := TX0) (N := 3) hx hb hts lk1 hown hK hP 0 rfl rfl 1 (by decide) lk7 (fun _ h9 => h9) rfl dX0_insert_52 ?_
      refine lv_iload_n hx hb dX0_insert_55 rfl (lv_at hl 1 rfl) ?_
      refine lv_iconst (v := nI 1) hx hb dX0_insert_56 (by decide) ?_
      refine z_iadd hx hb dX0_insert_57 ?_
      refine lv_aload_n hx hb dX0_insert_58 rfl (lv_at hl 0 rfl) ?_
      refine va_get (D := D) (ci := 0) (v := .int (nI n)) (C := RX0) (T := TX0) (N := 3) hx hb hts lk1 hown hK hP 0 rfl rfl 2 (by decide) lk0 (fun _ h9 => h9) rfl dX0_insert_59 ?_
      refine lv_iload_n hx hb dX0_insert_62 rfl (lv_at hl 1 rfl) ?_
      refine z_isub hx hb dX0_insert_63 (by omega) ?_
      refine z_copyl hx hb (by rw [hml]; exact hl.1.symm) hown lk3 lk4 lk5 lk6 hK hP hD hS 2 rfl (sp := b) (dp := (b + 1)) (n := (n - b)) (by omega) (by omega) (by omega) (Nat.le_of_ble_eq_true rfl) (Nat.le_of_ble_eq_true rfl) dX0_insert_64 (fun H locs hP hD hS => ?_)
      have hP : va_P D vwCl [(h, .inr (0, [.ref ka, .ref va, .int (nI n)])), (ka, .inl (cJ, cap, .inr (.inl (va_cpy K K b (b + 1) (n - b))))), (va, .inl (cJ, cap, .inr (.inl (va_cpy V V b (b + 1) (n - b)))))] H := hP
      have hD : va_D A [(h, .inr (0, [.ref ka, .ref va, .int (nI n)])), (ka, .inl (cJ, cap, .inr (.inl (va_cpy K K b (b + 1) (n - b))))), (va, .inl (cJ, cap, .inr (.inl (va_cpy V V b (b + 1) (n - b)))))] := hD
      refine lv_aload_n hx hb dX0_insert_67 rfl (lv_at hl 0 rfl) ?_
      refine va_get (D := D) (ci := 0) (v := .ref ka) (C := RX0) (T := TX0) (N := 3) hx hb hts lk1 hown hK hP 0 rfl rfl 0 (by decide) lk2 (fun _ h9 => h9) rfl dX0_insert_68 ?_
      refine lv_iload_n hx hb dX0_insert_71 rfl (lv_at hl 1 rfl) ?_
      refine lv_lload_n hx hb dX0_insert_72 rfl (lv_at hl 2 rfl) ?_
      refine z_last hx hb hK hP hD hS 1 rfl (j := b) (by omega) (by omega) dX0_insert_73 (fun H locs hP hD hS => ?_)
      have hP : va_P D vwCl [(h, .inr (0, [.ref ka, .ref va, .int (nI n)])), (ka, .inl (cJ, cap, .inr (.inl (vp_updL (va_cpy K K b (b + 1) (n - b)) b key)))), (va, .inl (cJ, cap, .inr (.inl (va_cpy V V b (b + 1) (n - b)))))] H := hP
      have hD : va_D A [(h, .inr (0, [.ref ka, .ref va, .int (nI n)])), (ka, .inl (cJ, cap, .inr (.inl (vp_updL (va_cpy K K b (b + 1) (n - b)) b key)))), (va, .inl (cJ, cap, .inr (.inl (va_cpy V V b (b + 1) (n - b)))))] := hD
      refine lv_aload_n hx hb dX0_insert_74 rfl (lv_at hl 0 rfl) ?_
      refine va_get (D := D) (ci := 0) (v := .ref va) (C := RX0) (T := TX0) (N := 3) hx hb hts lk1 hown hK hP 0 rfl rfl 1 (by decide) lk7 (fun _ h9 => h9) rfl dX0_insert_75 ?_
      refine lv_iload_n hx hb dX0_insert_78 rfl (lv_at hl 1 rfl) ?_
      refine lv_lload hx hb dX0_insert_79 (lv_at hl 3 rfl) ?_
      refine z_last hx hb hK hP hD hS 2 rfl (j := b) (by omega) (by omega) dX0_insert_81 (fun H locs hP hD hS => ?_)
      have hP : va_P D vwCl [(h, .inr (0, [.ref ka, .ref va, .int (nI n)])), (ka, .inl (cJ, cap, .inr (.inl (vp_updL (va_cpy K K b (b + 1) (n - b)) b key)))), (va, .inl (cJ, cap, .inr (.inl (vp_updL (va_cpy V V b (b + 1) (n - b)) b v))))] H := hP
      have hD : va_D A [(h, .inr (0, [.ref ka, .ref va, .int (nI n)])), (ka, .inl (cJ, cap, .inr (.inl (vp_updL (va_cpy K K b (b + 1) (n - b)) b key)))), (va, .inl (cJ, cap, .inr (.inl (vp_updL (va_cpy V V b (b + 1) (n - b)) b v))))] := hD
      refine lv_aload_n hx hb dX0_insert_82 rfl (lv_at hl 0 rfl) ?_
      refine lv_dup hx hb dX0_insert_83 rfl ?_
      refine va_get (D := D) (ci := 0) (v := .int (nI n)) (C := RX0) (T := TX0) (N := 3) hx hb hts lk1 hown hK hP 0 rfl rfl 2 (by decide) lk0 (fun _ h9 => h9) rfl dX0_insert_84 ?_
      refine lv_iconst (v := nI 1) hx hb dX0_insert_87 (by decide) ?_
      refine z_iadd hx hb dX0_insert_88 ?_
      refine va_put (D := D) (ci := 0) (v := .int (nI (n + 1))) (ty := .int) (C := RX0) (T := TX0) (N := 3) hx hb hts lk1 tyX0 tyX0_ok nmX0 hown hK hP hD hS 0 rfl rfl 2 (by decide) lk0 (fun _ h9 => h9) rfl (by decide +kernel) rfl rfl (Nat.le_of_ble_eq_true rfl) dX0_insert_89 (fun H locs hP hD hS => ?_)
      have hP : va_P D vwCl [(h, .inr (0, [.ref ka, .ref va, .int (nI (n + 1))])), (ka, .inl (cJ, cap, .inr (.inl (vp_updL (va_cpy K K b (b + 1) (n - b)) b key)))), (va, .inl (cJ, cap, .inr (.inl (vp_updL (va_cpy V V b (b + 1) (n - b)) b v))))] H := hP
      have hD : va_D A [(h, .inr (0, [.ref ka, .ref va, .int (nI (n + 1))])), (ka, .inl (cJ, cap, .inr (.inl (vp_updL (va_cpy K K b (b + 1) (n - b)) b key)))), (va, .inl (cJ, cap, .inr (.inl (vp_updL (va_cpy V V b (b + 1) (n - b)) b v))))] := hD
      exact W.vret hx hb hr (fun t ht hW => ⟨⟨(n + 1, inS K n b key, inS V n b v), rfl, rfl, by rw [ht]; exact hP, va_K.moved hW.alike hK, hD⟩, hS.F ht⟩) hS.2.2 dX0_insert_92
    · exact W.vret hx hb hr (fun t ht hW => ⟨⟨(n, K, V), rfl, by exfalso; omega, by rw [ht]; exact hP, va_K.moved hW.alike hK, hD⟩, hS.F ht⟩) hS.2.2 dX0_insert_24

set_option maxHeartbeats 4000000 in
set_option maxRecDepth 100000 in
theorem c_X0_takeOut (l : Launch) (D : va_G) (cI cJ : ClassId) (h ka va cap n : Nat) (K V : Nat → Int64) (x y : Int32) (hn : n ≤ cap) (hc : cap ≤ 1023) (sz : Nat) : Met l yX0_takeOut wsX0_takeOut { frames := 1, cells := 0, slots := 0, locals := 26 } (va_Pc [.ref h, .int x, .int y] (wP D cI cJ [(h, .inr (0, [.ref ka, .ref va, .int (nI n)])), (ka, .inl (cJ, cap, .inr (.inl K))), (va, .inl (cJ, cap, .inr (.inl V)))] sz)) (va_Qv (fun (u : SS) => ToR n K V x y u) (wB D cI cJ (va_A [(h, .inr (0, [.ref ka, .ref va, .int (nI n)])), (ka, .inl (cJ, cap, .inr (.inl K))), (va, .inl (cJ, cap, .inr (.inl V)))] sz) (fun (n', K', V') => [(h, .inr (0, [.ref ka, .ref va, .int (nI n')])), (ka, .inl (cJ, cap, .inr (.inl K'))), (va, .inl (cJ, cap, .inr (.inl V')))])) (va_A [(h, .inr (0, [.ref ka, .ref va, .int (nI n)])), (ka, .inl (cJ, cap, .inr (.inl K))), (va, .inl (cJ, cap, .inr (.inl V)))] sz)) 0 0 (va_A [(h, .inr (0, [.ref ka, .ref va, .int (nI n)])), (ka, .inl (cJ, cap, .inr (.inl K))), (va, .inl (cJ, cap, .inr (.inl V)))] sz) := by
  refine Met.ofW (cc := cX0_takeOut) (maxL := 3) (ret := none) (by decide) rfl ?_
  intro p e s m args below meth c s₁ B hml hv
  obtain ⟨rfl, hsz, hP, hK, hD0⟩ := hv
  have hx := B.exec
  have hb := B.bytes
  have hr := B.returns
  have hts := atoms_spec (ws := wsX0_takeOut) B.pre
  have hown : s.vm.findClass RX0 = some m.cls := findClass_of_methodNamed B.named
  have hlocks := B.notSynchronized
  have lk0 := hts (.fieldLink RX0 11 "KeyHall$Sorted" "held" "I") (by decide +kernel)
  have lk1 : ∀ w ∈ wsX00, w ∈ wsX0_takeOut := by decide +kernel
  have lk2 := hts (.fieldLink RX0 24 "KeyHall$Sorted" "keys" "[J") (by decide +kernel)
  have lk3 := hts (.methodLink RX0 54 arraycopyName) (by decide +kernel)
  have lk4 := hts (.native arraycopyName) (by decide +kernel)
  have lk5 := hts (.static arraycopyName) (by decide +kernel)
  have lk6 := hts (.initialized "java/lang/System") (by decide +kernel)
  have lk7 := hts (.fieldLink RX0 28 "KeyHall$Sorted" "values" "[J") (by decide +kernel)
  subst hsz
  have hD := hD0.self (sz := s.heap.size)
  generalize hAe : va_A [(h, .inr (0, [.ref ka, .ref va, .int (nI n)])), (ka, .inl (cJ, cap, .inr (.inl K))), (va, .inl (cJ, cap, .inr (.inl V)))] s.heap.size = A at hD ⊢
  have hA : ∀ q : Nat, s.heap.size ≤ q → A q := fun q h => by rw [← hAe]; exact Or.inr h
  have hS : va_S A s.heap s.heap [] := va_S.rf
  have hP : va_P D vwCl [(h, .inr (0, [.ref ka, .ref va, .int (nI n)])), (ka, .inl (cJ, cap, .inr (.inl K))), (va, .inl (cJ, cap, .inr (.inl V)))] s.heap := hP
  have hl := lv_entry ([.ref h, .int x, .int y]) (n := 3) (Nat.le_of_ble_eq_true rfl)
  rw [lg_entry_eq]
  generalize (lg_sl ([.ref h, .int x, .int y]) ++ List.replicate (3 - (lg_sl ([.ref h, .int x, .int y])).length) Slot.unset).toArray = ls at hl ⊢
  have hl : lv_has ls 3 [(0, .ref h), (1, .int x), (2, .int y)] := hl
  refine lv_iload_n hx hb dX0_takeOut_0 rfl (lv_at hl 1 rfl) ?_
  refine lv_if_lt (tgt := 17) hx hb dX0_takeOut_1 (by decide) (fun c_1 => ?_) (fun c_1 => ?_)
  · exact W.vret hx hb hr (fun t ht hW => ⟨⟨(n, K, V), rfl, Or.inr ⟨fun q => q.1 c_1, rfl⟩, by rw [ht]; exact hP, va_K.moved hW.alike hK, hD⟩, hS.F ht⟩) hS.2.2 dX0_takeOut_17
  · refine lv_iload_n hx hb dX0_takeOut_4 rfl (lv_at hl 2 rfl) ?_
    refine lv_iload_n hx hb dX0_takeOut_5 rfl (lv_at hl 1 rfl) ?_
    refine lv_icmp_le (tgt := 17) hx hb dX0_takeOut_6 (by decide) (fun c_6 => ?_) (fun c_6 => ?_)
    · exact W.vret hx hb hr (fun t ht hW => ⟨⟨(n, K, V), rfl, Or.inr ⟨fun q => q.2.1 c_6, rfl⟩, by rw [ht]; exact hP, va_K.moved hW.alike hK, hD⟩, hS.F ht⟩) hS.2.2 dX0_takeOut_17
    · refine lv_iload_n hx hb dX0_takeOut_9 rfl (lv_at hl 2 rfl) ?_
      refine lv_aload_n hx hb dX0_takeOut_10 rfl (lv_at hl 0 rfl) ?_
      refine va_get (D := D) (ci := 0) (v := .int (nI n)) (C := RX0) (T := TX0) (N := 3) hx hb hts lk1 hown hK hP 0 rfl rfl 2 (by decide) lk0 (fun _ h9 => h9) rfl dX0_takeOut_11 ?_
      refine lv_icmp_le (tgt := 18) hx hb dX0_takeOut_14 (by decide) (fun c_14 => ?_) (fun c_14 => ?_)
      · obtain ⟨i, hi, rfl⟩ := nI_of c_1
        obtain ⟨j, hj, rfl⟩ : ∃ j, j < 2 ^ 31 ∧ y = nI j := nI_of (fun q => c_6 (Int32.le_trans (Int32.le_of_lt q) (nI_pos' hi)))
        have hij : i < j := Nat.not_le.mp fun q => c_6 (nI_le q hi)
        have hjn : j ≤ n := Nat.not_lt.mp fun q => absurd c_14 (nI_ge q hj)
        refine lv_aload_n hx hb dX0_takeOut_18 rfl (lv_at hl 0 rfl) ?_
        refine va_get (D := D) (ci := 0) (v := .ref ka) (C := RX0) (T := TX0) (N := 3) hx hb hts lk1 hown hK hP 0 rfl rfl 0 (by decide) lk2 (fun _ h9 => h9) rfl dX0_takeOut_19 ?_
        refine lv_iload_n hx hb dX0_takeOut_22 rfl (lv_at hl 2 rfl) ?_
        refine lv_aload_n hx hb dX0_takeOut_23 rfl (lv_at hl 0 rfl) ?_
        refine va_get (D := D) (ci := 0) (v := .ref ka) (C := RX0) (T := TX0) (N := 3) hx hb hts lk1 hown hK hP 0 rfl rfl 0 (by decide) lk2 (fun _ h9 => h9) rfl dX0_takeOut_24 ?_
        refine lv_iload_n hx hb dX0_takeOut_27 rfl (lv_at hl 1 rfl) ?_
        refine lv_aload_n hx hb dX0_takeOut_28 rfl (lv_at hl 0 rfl) ?_
        refine va_get (D := D) (ci := 0) (v := .int (nI n)) (C := RX0) (T := TX0) (N := 3) hx hb hts lk1 hown hK hP 0 rfl rfl 2 (by decide) lk0 (fun _ h9 => h9) rfl dX0_takeOut_29 ?_
        refine lv_iload_n hx hb dX0_takeOut_32 rfl (lv_at hl 2 rfl) ?_
        refine z_isub hx hb dX0_takeOut_33 (by omega) ?_
        refine z_copyl hx hb (by rw [hml]; exact hl.1.symm) hown lk3 lk4 lk5 lk6 hK hP hD hS 1 rfl (sp := j) (dp := i) (n := (n - j)) (by omega) (by omega) (by omega) (Nat.le_of_ble_eq_true rfl) (Nat.le_of_ble_eq_true rfl) dX0_takeOut_34 (fun H locs hP hD hS => ?_)
        have hP : va_P D vwCl [(h, .inr (0, [.ref ka, .ref va, .int (nI n)])), (ka, .inl (cJ, cap, .inr (.inl (va_cpy K K j i (n - j))))), (va, .inl (cJ, cap, .inr (.inl V)))] H := hP
        have hD : va_D A [(h, .inr (0, [.ref ka, .ref va, .int (nI n)])), (ka, .inl (cJ, cap, .inr (.inl (va_cpy K K j i (n - j))))), (va, .inl (cJ, cap, .inr (.inl V)))] := hD
        refine lv_aload_n hx hb dX0_takeOut_37 rfl (lv_at hl 0 rfl) ?_
        refine va_get (D := D) (ci := 0) (v := .ref va) (C := RX0) (T := TX0) (N := 3) hx hb hts lk1 hown hK hP 0 rfl rfl 1 (by decide) lk7 (fun _ h9 => h9) rfl dX0_takeOut_38 ?_
        refine lv_iload_n hx hb dX0_takeOut_41 rfl (lv_at hl 2 rfl) ?_
        refine lv_aload_n hx hb dX0_takeOut_42 rfl (lv_at hl 0 rfl) ?_
        refine va_get (D := D) (ci := 0) (v := .ref va) (C := RX0) (T := TX0) (N := 3) hx hb hts lk1 hown hK hP 0 rfl rfl 1 (by decide) lk7 (fun _ h9 => h9) rfl dX0_takeOut_43 ?_
        refine lv_iload_n hx hb dX0_takeOut_46 rfl (lv_at hl 1 rfl) ?_
        refine lv_aload_n hx hb dX0_takeOut_47 rfl (lv_at hl 0 rfl) ?_
        refine va_get (D := D) (ci := 0) (v := .int (nI n)) (C := RX0) (T := TX0) (N := 3) hx hb hts lk1 hown hK hP 0 rfl rfl 2 (by decide) lk0 (fun _ h9 => h9) rfl dX0_takeOut_48 ?_
        refine lv_iload_n hx hb dX0_takeOut_51 rfl (lv_at hl 2 rfl) ?_
        refine z_isub hx hb dX0_takeOut_52 (by omega) ?_
        refine z_copyl hx hb (by rw [hml]; exact hl.1.symm) hown lk3 lk4 lk5 lk6 hK hP hD hS 2 rfl (sp := j) (dp := i) (n := (n - j)) (by omega) (by omega) (by omega) (Nat.le_of_ble_eq_true rfl) (Nat.le_of_ble_eq_true rfl) dX0_takeOut_53 (fun H locs hP hD hS => ?_)
        have hP : va_P D vwCl [(h, .inr (0, [.ref ka, .ref va, .int (nI n)])), (ka, .inl (cJ, cap, .inr (.inl (va_cpy K K j i (n - j))))), (va, .inl (cJ, cap, .inr (.inl (va_cpy V V j i (n - j)))))] H := hP
        have hD : va_D A [(h, .inr (0, [.ref ka, .ref va, .int (nI n)])), (ka, .inl (cJ, cap, .inr (.inl (va_cpy K K j i (n - j))))), (va, .inl (cJ, cap, .inr (.inl (va_cpy V V j i (n - j)))))] := hD
        refine lv_aload_n hx hb dX0_takeOut_56 rfl (lv_at hl 0 rfl) ?_
        refine lv_dup hx hb dX0_takeOut_57 rfl ?_
        refine va_get (D := D) (ci := 0) (v := .int (nI n)) (C := RX0) (T := TX0) (N := 3) hx hb hts lk1 hown hK hP 0 rfl rfl 2 (by decide) lk0 (fun _ h9 => h9) rfl dX0_takeOut_58 ?_
        refine lv_iload_n hx hb dX0_takeOut_61 rfl (lv_at hl 2 rfl) ?_
        refine lv_iload_n hx hb dX0_takeOut_62 rfl (lv_at hl 1 rfl) ?_
        refine z_isub hx hb dX0_takeOut_63 (by omega) ?_
        refine z_isub hx hb dX0_takeOut_64 (by omega) ?_
        refine va_put (D := D) (ci := 0) (v := .int (nI (n - (j - i)))) (ty := .int) (C := RX0) (T := TX0) (N := 3) hx hb hts lk1 tyX0 tyX0_ok nmX0 hown hK hP hD hS 0 rfl rfl 2 (by decide) lk0 (fun _ h9 => h9) rfl (by decide +kernel) rfl rfl (Nat.le_of_ble_eq_true rfl) dX0_takeOut_65 (fun H locs hP hD hS => ?_)
        have hP : va_P D vwCl [(h, .inr (0, [.ref ka, .ref va, .int (nI (n - (j - i)))])), (ka, .inl (cJ, cap, .inr (.inl (va_cpy K K j i (n - j))))), (va, .inl (cJ, cap, .inr (.inl (va_cpy V V j i (n - j)))))] H := hP
        have hD : va_D A [(h, .inr (0, [.ref ka, .ref va, .int (nI (n - (j - i)))])), (ka, .inl (cJ, cap, .inr (.inl (va_cpy K K j i (n - j))))), (va, .inl (cJ, cap, .inr (.inl (va_cpy V V j i (n - j)))))] := hD
        exact W.vret hx hb hr (fun t ht hW => ⟨⟨(n - (j - i), va_cpy K K j i (n - j), va_cpy V V j i (n - j)), rfl, Or.inl ⟨i, j, rfl, rfl, hij, hjn, rfl⟩, by rw [ht]; exact hP, va_K.moved hW.alike hK, hD⟩, hS.F ht⟩) hS.2.2 dX0_takeOut_68
      · exact W.vret hx hb hr (fun t ht hW => ⟨⟨(n, K, V), rfl, Or.inr ⟨fun q => c_14 q.2.2, rfl⟩, by rw [ht]; exact hP, va_K.moved hW.alike hK, hD⟩, hS.F ht⟩) hS.2.2 dX0_takeOut_17

theorem m1_out (n : Nat) : ¬ (¬ (-1 : Int32) < 0 ∧ ¬ nI n ≤ (-1 : Int32)) := fun q => q.1 (by decide)
theorem j_in {j n : Nat} (h : j < n) (hn : n < 2 ^ 31) : ¬ nI j < 0 ∧ ¬ nI n ≤ nI j := ⟨nI_pos (by omega), nI_ge h hn⟩

theorem tk_at {n cap : Nat} {K V : Nat → Int64} {x : Int32} (hn : n ≤ cap) (hc : cap ≤ 1023) (hx0 : x = (-1) ∨ ∃ j, j < 100000 ∧ x = nI j) {u : Nat × (Nat → Int64) × (Nat → Int64)} (h : (∃ i j, x = nI i ∧ x + nI 1 = nI j ∧ i < j ∧ j ≤ n ∧ u = (n - (j - i), va_cpy K K j i (n - j), va_cpy V V j i (n - j))) ∨ (¬ (¬ x < 0 ∧ ¬ x + nI 1 ≤ x ∧ x + nI 1 ≤ nI n) ∧ u = (n, K, V))) : (∃ j, x = nI j ∧ j < n ∧ vAt n V x = V j ∧ u = (n - 1, va_cpy K K (j + 1) j (n - (j + 1)), va_cpy V V (j + 1) j (n - (j + 1)))) ∨ (¬ (¬ x < 0 ∧ ¬ nI n ≤ x) ∧ vAt n V x = NO ∧ u = (n, K, V)) := by
  rcases hx0 with rfl | ⟨j, hj, rfl⟩
  · rcases h with ⟨i, j, h1, h2, h3, h4, -⟩ | ⟨h1, h2⟩
    · exfalso
      have : (nI i) < 0 := by rw [← h1]; decide
      exact nI_pos (by omega) this
    · exact Or.inr ⟨m1_out n, vAt_out (m1_out n), h2⟩
  · rw [nI_add] at h
    rcases h with ⟨i, k, h1, h2, h3, h4, h5⟩ | ⟨h1, h2⟩
    · have e1 : j = i := (nI_eq (by omega) (by omega)).mp h1
      have e2 : j + 1 = k := (nI_eq (by omega) (by omega)).mp h2
      subst e1; subst e2
      refine Or.inl ⟨j, rfl, by omega, vAt_N (by omega) (by omega), ?_⟩
      rw [h5, show n - (j + 1 - j) = n - 1 by omega]
    · have hnj : n ≤ j := Nat.not_lt.mp fun q => h1 ⟨nI_pos (by omega), nI_ge (by omega) (by omega), nI_le (by omega) (by omega)⟩
      have ho : ¬ (¬ nI j < 0 ∧ ¬ nI n ≤ nI j) := fun q => q.2 (nI_le hnj (by omega))
      exact Or.inr ⟨ho, vAt_out ho, h2⟩

set_option maxHeartbeats 4000000 in
set_option maxRecDepth 100000 in
theorem c_X0_takeAt (l : Launch) (D : va_G) (cI cJ : ClassId) (h ka va cap n : Nat) (K V : Nat → Int64) (x : Int32) (hn : n ≤ cap) (hc : cap ≤ 1023) (hx0 : x = (-1) ∨ ∃ j, j < 100000 ∧ x = nI j) (sz : Nat) : Met l yX0_takeAt wsX0_takeAt { frames := 2, cells := 0, slots := 0, locals := 48 } (va_Pc [.ref h, .int x] (wP D cI cJ [(h, .inr (0, [.ref ka, .ref va, .int (nI n)])), (ka, .inl (cJ, cap, .inr (.inl K))), (va, .inl (cJ, cap, .inr (.inl V)))] sz)) (va_Ql (fun r (u : SS) => TkR n K V x r u) (wB D cI cJ (va_A [(h, .inr (0, [.ref ka, .ref va, .int (nI n)])), (ka, .inl (cJ, cap, .inr (.inl K))), (va, .inl (cJ, cap, .inr (.inl V)))] sz) (fun (n', K', V') => [(h, .inr (0, [.ref ka, .ref va, .int (nI n')])), (ka, .inl (cJ, cap, .inr (.inl K'))), (va, .inl (cJ, cap, .inr (.inl V')))])) (va_A [(h, .inr (0, [.ref ka, .ref va, .int (nI n)])), (ka, .inl (cJ, cap, .inr (.inl K))), (va, .inl (cJ, cap, .inr (.inl V)))] sz)) 0 0 (va_A [(h, .inr (0, [.ref ka, .ref va, .int (nI n)])), (ka, .inl (cJ, cap, .inr (.inl K))), (va, .inl (cJ, cap, .inr (.inl V)))] sz) := by
  refine Met.ofW (cc := cX0_takeAt) (maxL := 4) (ret := (some .long)) (by decide) rfl ?_
  intro p e s m args below meth c s₁ B hml hv
  obtain ⟨rfl, hsz, hP, hK, hD0⟩ := hv
  have hx := B.exec
  have hb := B.bytes
  have hr := B.returns
  have hts := atoms_spec (ws := wsX0_takeAt) B.pre
  have hown : s.vm.findClass RX0 = some m.cls := findClass_of_methodNamed B.named
  have hlocks := B.notSynchronized
  subst hsz
  have hD := hD0.self (sz := s.heap.size)
  generalize hAe : va_A [(h, .inr (0, [.ref ka, .ref va, .int (nI n)])), (ka, .inl (cJ, cap, .inr (.inl K))), (va, .inl (cJ, cap, .inr (.inl V)))] s.heap.size = A at hD ⊢
  have hA : ∀ q : Nat, s.heap.size ≤ q → A q := fun q h => by rw [← hAe]; exact Or.inr h
  have hS : va_S A s.heap s.heap [] := va_S.rf
  have hP : va_P D vwCl [(h, .inr (0, [.ref ka, .ref va, .int (nI n)])), (ka, .inl (cJ, cap, .inr (.inl K))), (va, .inl (cJ, cap, .inr (.inl V)))] s.heap := hP
  have hl := lv_entry ([.ref h, .int x]) (n := 4) (Nat.le_of_ble_eq_true rfl)
  rw [lg_entry_eq]
  generalize (lg_sl ([.ref h, .int x]) ++ List.replicate (4 - (lg_sl ([.ref h, .int x])).length) Slot.unset).toArray = ls at hl ⊢
  have hl : lv_has ls 4 [(0, .ref h), (1, .int x)] := hl
  refine lv_aload_n hx hb dX0_takeAt_0 rfl (lv_at hl 0 rfl) ?_
  refine lv_iload_n hx hb dX0_takeAt_1 rfl (lv_at hl 1 rfl) ?_
  refine vp_callSl (va_Run.run (va_runV (As := [.int x]) (rest := []) ⟨hx, hb, hml, hown, hts⟩ (c_X0_valueAt l D cI cJ h ka va cap n K V x (by omega) (by omega)) (cwV 1 hts gX0_takeAt_X0_valueAt rfl rfl rfl (by decide +kernel) ⟨Nat.le_of_ble_eq_true rfl, Nat.le_of_ble_eq_true rfl⟩) (z_preV hK hP [0, 1, 2] rfl 0 0 rfl rfl) rfl rfl hl.1 rfl (lv_room (Nat.le_of_ble_eq_true rfl)) dX0_takeAt_2 ⟨Nat.zero_le _, Nat.zero_le _⟩)) (fun r_1 hr_1 => ?_)
  replace hr_1 := hr_1.symm
  subst hr_1
  refine lv_lstore_n (lv' := [(2, .long (vAt n V x)), (0, .ref h), (1, .int x)]) hx hb dX0_takeAt_5 rfl hl (by decide) rfl (fun ls hl => ?_)
  refine lv_aload_n hx hb dX0_takeAt_6 rfl (lv_at hl 1 rfl) ?_
  refine lv_iload_n hx hb dX0_takeAt_7 rfl (lv_at hl 2 rfl) ?_
  refine lv_iload_n hx hb dX0_takeAt_8 rfl (lv_at hl 2 rfl) ?_
  refine lv_iconst (v := nI 1) hx hb dX0_takeAt_9 (by decide) ?_
  refine lv_iadd hx hb dX0_takeAt_10 ?_
  have hFc := va_free (wc := [(h, .inr (0, [.ref ka, .ref va, .int (nI n)])), (ka, .inl (cJ, cap, .inr (.inl K))), (va, .inl (cJ, cap, .inr (.inl V)))]) hD hS hA [0, 1, 2] rfl
  refine va_callv (va_runV (As := [.int x, .int (x + (nI 1))]) (rest := []) ⟨hx, hb, hml, hown, hts⟩ (c_X0_takeOut l D cI cJ h ka va cap n K V x (x + (nI 1)) (by omega) (by omega) s.heap.size) (cwV 2 hts gX0_takeAt_X0_takeOut rfl rfl rfl (by decide +kernel) ⟨Nat.le_of_ble_eq_true rfl, Nat.le_of_ble_eq_true rfl⟩) (z_preVw hK hP hD [0, 1, 2] (by decide) rfl rfl 0 0 rfl rfl) rfl rfl hl.1 rfl (lv_room (Nat.le_of_ble_eq_true rfl)) dX0_takeAt_11 ⟨Nat.zero_le _, Nat.zero_le _⟩) hS (fun q _ h => hFc q h) hFc (fun u_2 t H1 locs ht hvm hr_3 hB hzz1 hkk1 hS => ?_)
  obtain ⟨n4, K4, V4⟩ := u_2
  obtain ⟨hP1, hK1, hD1⟩ := hB
  rw [ht] at hP1
  try dsimp only at hr_3
  obtain ⟨hP, hD⟩ := va_join (wr := []) (w1 := [(h, .inr (0, [.ref ka, .ref va, .int (nI n4)])), (ka, .inl (cJ, cap, .inr (.inl K4))), (va, .inl (cJ, cap, .inr (.inl V4)))]) hP hD [0, 1, 2] [] rfl rfl (by decide) (by decide) hkk1 hFc hP1 hD1
  generalize H1 = H at hP hS ⊢
  have hP : va_P D vwCl [(h, .inr (0, [.ref ka, .ref va, .int (nI n4)])), (ka, .inl (cJ, cap, .inr (.inl K4))), (va, .inl (cJ, cap, .inr (.inl V4)))] H := hP.sub [0, 1, 2] rfl
  have hD : va_D A [(h, .inr (0, [.ref ka, .ref va, .int (nI n4)])), (ka, .inl (cJ, cap, .inr (.inl K4))), (va, .inl (cJ, cap, .inr (.inl V4)))] := hD.sub [0, 1, 2] (by decide) rfl
  refine lv_lload_n hx hb dX0_takeAt_14 rfl (lv_at hl 0 rfl) ?_
  exact W.lret (v := vAt n V x) hx hb hr (fun t ht hW => ⟨⟨vAt n V x, (n4, K4, V4), rfl, tk_at hn hc hx0 hr_3, by rw [ht]; exact hP, va_K.moved hW.alike hK, hD⟩, hS.F ht⟩) hS.2.2 dX0_takeAt_15

set_option maxHeartbeats 4000000 in
set_option maxRecDepth 100000 in
theorem c_X0_move (l : Launch) (D : va_G) (cI cJ : ClassId) (h ka va cap n : Nat) (K V : Nat → Int64) (i j : Nat) (hn : n ≤ cap) (hc : cap ≤ 1023) (hi : i < n) (hji : j ≤ i) (sz : Nat) : Met l yX0_move wsX0_move { frames := 1, cells := 0, slots := 0, locals := 21 } (va_Pc [.ref h, .int (nI i), .int (nI j)] (wP D cI cJ [(h, .inr (0, [.ref ka, .ref va, .int (nI n)])), (ka, .inl (cJ, cap, .inr (.inl K))), (va, .inl (cJ, cap, .inr (.inl V)))] sz)) (va_Qv (fun (u : SS) => u = (n, vp_updL K j (K i), vp_updL V j (V i))) (wB D cI cJ (va_A [(h, .inr (0, [.ref ka, .ref va, .int (nI n)])), (ka, .inl (cJ, cap, .inr (.inl K))), (va, .inl (cJ, cap, .inr (.inl V)))] sz) (fun (n', K', V') => [(h, .inr (0, [.ref ka, .ref va, .int (nI n')])), (ka, .inl (cJ, cap, .inr (.inl K'))), (va, .inl (cJ, cap, .inr (.inl V')))])) (va_A [(h, .inr (0, [.ref ka, .ref va, .int (nI n)])), (ka, .inl (cJ, cap, .inr (.inl K))), (va, .inl (cJ, cap, .inr (.inl V)))] sz)) 0 0 (va_A [(h, .inr (0, [.ref ka, .ref va, .int (nI n)])), (ka, .inl (cJ, cap, .inr (.inl K))), (va, .inl (cJ, cap, .inr (.inl V)))] sz) := by
  refine Met.ofW (cc := cX0_move) (maxL := 3) (ret := none) (by decide) rfl ?_
  intro p e s m args below meth c s₁ B hml hv
  obtain ⟨rfl, hsz, hP, hK, hD0⟩ := hv
  have hx := B.exec
  have hb := B.bytes
  have hr := B.returns
  have hts := atoms_spec (ws := wsX0_move) B.pre
  have hown : s.vm.findClass RX0 = some m.cls := findClass_of_methodNamed B.named
  have hlocks := B.notSynchronized
  have lk0 := hts (.fieldLink RX0 24 "KeyHall$Sorted" "keys" "[J") (by decide +kernel)
  have lk1 : ∀ w ∈ wsX00, w ∈ wsX0_move := by decide +kernel
  have lk2 := hts (.fieldLink RX0 28 "KeyHall$Sorted" "values" "[J") (by decide +kernel)
  subst hsz
  have hD := hD0.self (sz := s.heap.size)
  generalize hAe : va_A [(h, .inr (0, [.ref ka, .ref va, .int (nI n)])), (ka, .inl (cJ, cap, .inr (.inl K))), (va, .inl (cJ, cap, .inr (.inl V)))] s.heap.size = A at hD ⊢
  have hA : ∀ q : Nat, s.heap.size ≤ q → A q := fun q h => by rw [← hAe]; exact Or.inr h
  have hS : va_S A s.heap s.heap [] := va_S.rf
  have hP : va_P D vwCl [(h, .inr (0, [.ref ka, .ref va, .int (nI n)])), (ka, .inl (cJ, cap, .inr (.inl K))), (va, .inl (cJ, cap, .inr (.inl V)))] s.heap := hP
  have hl := lv_entry ([.ref h, .int (nI i), .int (nI j)]) (n := 3) (Nat.le_of_ble_eq_true rfl)
  rw [lg_entry_eq]
  generalize (lg_sl ([.ref h, .int (nI i), .int (nI j)]) ++ List.replicate (3 - (lg_sl ([.ref h, .int (nI i), .int (nI j)])).length) Slot.unset).toArray = ls at hl ⊢
  have hl : lv_has ls 3 [(0, .ref h), (1, .int (nI i)), (2, .int (nI j))] := hl
  refine lv_aload_n hx hb dX0_move_0 rfl (lv_at hl 0 rfl) ?_
  refine lv_iload_n hx hb dX0_move_1 rfl (lv_at hl 1 rfl) ?_
  refine vp_callSi (va_Run.run (va_runV (As := [.int (nI i)]) (rest := []) ⟨hx, hb, hml, hown, hts⟩ (c_X0_isInside l D cI cJ h ka va cap n K V (nI i) ) (cwV 1 hts gX0_move_X0_isInside rfl rfl rfl (by decide +kernel) ⟨Nat.le_of_ble_eq_true rfl, Nat.le_of_ble_eq_true rfl⟩) (z_preV hK hP [0, 1, 2] rfl 0 0 rfl rfl) rfl rfl hl.1 rfl (lv_room (Nat.le_of_ble_eq_true rfl)) dX0_move_2 ⟨Nat.zero_le _, Nat.zero_le _⟩)) (fun r_1 hr_1 => ?_)
  rcases hr_1 with ⟨hi1, hi2, rfl⟩ | ⟨hi1, rfl⟩
  · have hj : i < n := Nat.not_le.mp fun q => hi2 (nI_le q (by omega))
    refine lv_if_eq (tgt := 40) hx hb dX0_move_5 (by decide) (fun q => absurd q (by decide)) (fun _ => ?_)
    refine lv_aload_n hx hb dX0_move_8 rfl (lv_at hl 0 rfl) ?_
    refine lv_iload_n hx hb dX0_move_9 rfl (lv_at hl 2 rfl) ?_
    refine vp_callSi (va_Run.run (va_runV (As := [.int (nI j)]) (rest := []) ⟨hx, hb, hml, hown, hts⟩ (c_X0_isInside l D cI cJ h ka va cap n K V (nI j) ) (cwV 1 hts gX0_move_X0_isInside rfl rfl rfl (by decide +kernel) ⟨Nat.le_of_ble_eq_true rfl, Nat.le_of_ble_eq_true rfl⟩) (z_preV hK hP [0, 1, 2] rfl 0 0 rfl rfl) rfl rfl hl.1 rfl (lv_room (Nat.le_of_ble_eq_true rfl)) dX0_move_10 ⟨Nat.zero_le _, Nat.zero_le _⟩)) (fun r_3 hr_3 => ?_)
    rcases hr_3 with ⟨hi1, hi2, rfl⟩ | ⟨hi1, rfl⟩
    · have hj : j < n := Nat.not_le.mp fun q => hi2 (nI_le q (by omega))
      refine lv_if_eq (tgt := 40) hx hb dX0_move_13 (by decide) (fun q => absurd q (by decide)) (fun _ => ?_)
      refine lv_aload_n hx hb dX0_move_16 rfl (lv_at hl 0 rfl) ?_
      refine va_get (D := D) (ci := 0) (v := .ref ka) (C := RX0) (T := TX0) (N := 3) hx hb hts lk1 hown hK hP 0 rfl rfl 0 (by decide) lk0 (fun _ h9 => h9) rfl dX0_move_17 ?_
      refine lv_iload_n hx hb dX0_move_20 rfl (lv_at hl 2 rfl) ?_
      refine lv_aload_n hx hb dX0_move_21 rfl (lv_at hl 0 rfl) ?_
      refine va_get (D := D) (ci := 0) (v := .ref ka) (C := RX0) (T := TX0) (N := 3) hx hb hts lk1 hown hK hP 0 rfl rfl 0 (by decide) lk0 (fun _ h9 => h9) rfl dX0_move_22 ?_
      refine lv_iload_n hx hb dX0_move_25 rfl (lv_at hl 1 rfl) ?_
      refine z_lald hx hb hK hP 1 rfl (j := i) (by omega) (by omega) dX0_move_26 ?_
      refine z_last hx hb hK hP hD hS 1 rfl (j := j) (by omega) (by omega) dX0_move_27 (fun H locs hP hD hS => ?_)
      have hP : va_P D vwCl [(h, .inr (0, [.ref ka, .ref va, .int (nI n)])), (ka, .inl (cJ, cap, .inr (.inl (vp_updL K j (K i))))), (va, .inl (cJ, cap, .inr (.inl V)))] H := hP
      have hD : va_D A [(h, .inr (0, [.ref ka, .ref va, .int (nI n)])), (ka, .inl (cJ, cap, .inr (.inl (vp_updL K j (K i))))), (va, .inl (cJ, cap, .inr (.inl V)))] := hD
      refine lv_aload_n hx hb dX0_move_28 rfl (lv_at hl 0 rfl) ?_
      refine va_get (D := D) (ci := 0) (v := .ref va) (C := RX0) (T := TX0) (N := 3) hx hb hts lk1 hown hK hP 0 rfl rfl 1 (by decide) lk2 (fun _ h9 => h9) rfl dX0_move_29 ?_
      refine lv_iload_n hx hb dX0_move_32 rfl (lv_at hl 2 rfl) ?_
      refine lv_aload_n hx hb dX0_move_33 rfl (lv_at hl 0 rfl) ?_
      refine va_get (D := D) (ci := 0) (v := .ref va) (C := RX0) (T := TX0) (N := 3) hx hb hts lk1 hown hK hP 0 rfl rfl 1 (by decide) lk2 (fun _ h9 => h9) rfl dX0_move_34 ?_
      refine lv_iload_n hx hb dX0_move_37 rfl (lv_at hl 1 rfl) ?_
      refine z_lald hx hb hK hP 2 rfl (j := i) (by omega) (by omega) dX0_move_38 ?_
      refine z_last hx hb hK hP hD hS 2 rfl (j := j) (by omega) (by omega) dX0_move_39 (fun H locs hP hD hS => ?_)
      have hP : va_P D vwCl [(h, .inr (0, [.ref ka, .ref va, .int (nI n)])), (ka, .inl (cJ, cap, .inr (.inl (vp_updL K j (K i))))), (va, .inl (cJ, cap, .inr (.inl (vp_updL V j (V i)))))] H := hP
      have hD : va_D A [(h, .inr (0, [.ref ka, .ref va, .int (nI n)])), (ka, .inl (cJ, cap, .inr (.inl (vp_updL K j (K i))))), (va, .inl (cJ, cap, .inr (.inl (vp_updL V j (V i)))))] := hD
      exact W.vret hx hb hr (fun t ht hW => ⟨⟨(n, vp_updL K j (K i), vp_updL V j (V i)), rfl, rfl, by rw [ht]; exact hP, va_K.moved hW.alike hK, hD⟩, hS.F ht⟩) hS.2.2 dX0_move_40
    · have hj : n ≤ j := Nat.not_lt.mp fun q => hi1 ⟨nI_pos (by omega), nI_ge q (by omega)⟩
      refine lv_if_eq (tgt := 40) hx hb dX0_move_13 (by decide) (fun _ => ?_) (fun q => absurd (by decide) q)
      exact W.vret hx hb hr (fun t ht hW => ⟨⟨(n, K, V), rfl, by exfalso; omega, by rw [ht]; exact hP, va_K.moved hW.alike hK, hD⟩, hS.F ht⟩) hS.2.2 dX0_move_40
  · have hj : n ≤ i := Nat.not_lt.mp fun q => hi1 ⟨nI_pos (by omega), nI_ge q (by omega)⟩
    refine lv_if_eq (tgt := 40) hx hb dX0_move_5 (by decide) (fun _ => ?_) (fun q => absurd (by decide) q)
    exact W.vret hx hb hr (fun t ht hW => ⟨⟨(n, K, V), rfl, by exfalso; omega, by rw [ht]; exact hP, va_K.moved hW.alike hK, hD⟩, hS.F ht⟩) hS.2.2 dX0_move_40

set_option maxHeartbeats 4000000 in
set_option maxRecDepth 100000 in
theorem c_X0_shorten (l : Launch) (D : va_G) (cI cJ : ClassId) (h ka va cap n : Nat) (K V : Nat → Int64) (j : Nat) (hn : n ≤ cap) (hc : cap ≤ 1023) (hj : j ≤ n) (sz : Nat) : Met l yX0_shorten wsX0_shorten { frames := 0, cells := 0, slots := 0, locals := 0 } (va_Pc [.ref h, .int (nI j)] (wP D cI cJ [(h, .inr (0, [.ref ka, .ref va, .int (nI n)])), (ka, .inl (cJ, cap, .inr (.inl K))), (va, .inl (cJ, cap, .inr (.inl V)))] sz)) (va_Qv (fun (u : SS) => u = (j, K, V)) (wB D cI cJ (va_A [(h, .inr (0, [.ref ka, .ref va, .int (nI n)])), (ka, .inl (cJ, cap, .inr (.inl K))), (va, .inl (cJ, cap, .inr (.inl V)))] sz) (fun (n', K', V') => [(h, .inr (0, [.ref ka, .ref va, .int (nI n')])), (ka, .inl (cJ, cap, .inr (.inl K'))), (va, .inl (cJ, cap, .inr (.inl V')))])) (va_A [(h, .inr (0, [.ref ka, .ref va, .int (nI n)])), (ka, .inl (cJ, cap, .inr (.inl K))), (va, .inl (cJ, cap, .inr (.inl V)))] sz)) 0 0 (va_A [(h, .inr (0, [.ref ka, .ref va, .int (nI n)])), (ka, .inl (cJ, cap, .inr (.inl K))), (va, .inl (cJ, cap, .inr (.inl V)))] sz) := by
  refine Met.ofW (cc := cX0_shorten) (maxL := 2) (ret := none) (by decide) rfl ?_
  intro p e s m args below meth c s₁ B hml hv
  obtain ⟨rfl, hsz, hP, hK, hD0⟩ := hv
  have hx := B.exec
  have hb := B.bytes
  have hr := B.returns
  have hts := atoms_spec (ws := wsX0_shorten) B.pre
  have hown : s.vm.findClass RX0 = some m.cls := findClass_of_methodNamed B.named
  have hlocks := B.notSynchronized
  have lk0 := hts (.fieldLink RX0 11 "KeyHall$Sorted" "held" "I") (by decide +kernel)
  have lk1 : ∀ w ∈ wsX00, w ∈ wsX0_shorten := by decide +kernel
  subst hsz
  have hD := hD0.self (sz := s.heap.size)
  generalize hAe : va_A [(h, .inr (0, [.ref ka, .ref va, .int (nI n)])), (ka, .inl (cJ, cap, .inr (.inl K))), (va, .inl (cJ, cap, .inr (.inl V)))] s.heap.size = A at hD ⊢
  have hA : ∀ q : Nat, s.heap.size ≤ q → A q := fun q h => by rw [← hAe]; exact Or.inr h
  have hS : va_S A s.heap s.heap [] := va_S.rf
  have hP : va_P D vwCl [(h, .inr (0, [.ref ka, .ref va, .int (nI n)])), (ka, .inl (cJ, cap, .inr (.inl K))), (va, .inl (cJ, cap, .inr (.inl V)))] s.heap := hP
  have hl := lv_entry ([.ref h, .int (nI j)]) (n := 2) (Nat.le_of_ble_eq_true rfl)
  rw [lg_entry_eq]
  generalize (lg_sl ([.ref h, .int (nI j)]) ++ List.replicate (2 - (lg_sl ([.ref h, .int (nI j)])).length) Slot.unset).toArray = ls at hl ⊢
  have hl : lv_has ls 2 [(0, .ref h), (1, .int (nI j))] := hl
  refine lv_iload_n hx hb dX0_shorten_0 rfl (lv_at hl 1 rfl) ?_
  refine z_if_lt (tgt := 17) hx hb dX0_shorten_1 (by decide) (by omega) ?_
  refine lv_iload_n hx hb dX0_shorten_4 rfl (lv_at hl 1 rfl) ?_
  refine lv_aload_n hx hb dX0_shorten_5 rfl (lv_at hl 0 rfl) ?_
  refine va_get (D := D) (ci := 0) (v := .int (nI n)) (C := RX0) (T := TX0) (N := 3) hx hb hts lk1 hown hK hP 0 rfl rfl 2 (by decide) lk0 (fun _ h9 => h9) rfl dX0_shorten_6 ?_
  refine z_icmp_ge (tgt := 17) hx hb dX0_shorten_9 (by decide) (by omega) (by omega) (fun c_9 => ?_) (fun c_9 => ?_)
  · exact W.vret hx hb hr (fun t ht hW => ⟨⟨(n, K, V), rfl, by rw [Nat.le_antisymm hj c_9], by rw [ht]; exact hP, va_K.moved hW.alike hK, hD⟩, hS.F ht⟩) hS.2.2 dX0_shorten_17
  · refine lv_aload_n hx hb dX0_shorten_12 rfl (lv_at hl 0 rfl) ?_
    refine lv_iload_n hx hb dX0_shorten_13 rfl (lv_at hl 1 rfl) ?_
    refine va_put (D := D) (ci := 0) (v := .int (nI j)) (ty := .int) (C := RX0) (T := TX0) (N := 3) hx hb hts lk1 tyX0 tyX0_ok nmX0 hown hK hP hD hS 0 rfl rfl 2 (by decide) lk0 (fun _ h9 => h9) rfl (by decide +kernel) rfl rfl (Nat.le_of_ble_eq_true rfl) dX0_shorten_14 (fun H locs hP hD hS => ?_)
    have hP : va_P D vwCl [(h, .inr (0, [.ref ka, .ref va, .int (nI j)])), (ka, .inl (cJ, cap, .inr (.inl K))), (va, .inl (cJ, cap, .inr (.inl V)))] H := hP
    have hD : va_D A [(h, .inr (0, [.ref ka, .ref va, .int (nI j)])), (ka, .inl (cJ, cap, .inr (.inl K))), (va, .inl (cJ, cap, .inr (.inl V)))] := hD
    exact W.vret hx hb hr (fun t ht hW => ⟨⟨(j, K, V), rfl, rfl, by rw [ht]; exact hP, va_K.moved hW.alike hK, hD⟩, hS.F ht⟩) hS.2.2 dX0_shorten_17

set_option maxHeartbeats 4000000 in
set_option maxRecDepth 100000 in
theorem c_X0_store (l : Launch) (D : va_G) (cI cJ : ClassId) (h ka va cap n : Nat) (K V : Nat → Int64) (key v : Int64) (hn : n ≤ cap) (hc : cap ≤ 1023) (hs : Srt n K) (hn1 : n < cap) (sz : Nat) : Met l yX0_store wsX0_store { frames := 2, cells := 0, slots := 0, locals := 51 } (va_Pc [.ref h, .long key, .long v] (wP D cI cJ [(h, .inr (0, [.ref ka, .ref va, .int (nI n)])), (ka, .inl (cJ, cap, .inr (.inl K))), (va, .inl (cJ, cap, .inr (.inl V)))] sz)) (va_Ql (fun r (u : SS) => StR n K V key v r u) (wB D cI cJ (va_A [(h, .inr (0, [.ref ka, .ref va, .int (nI n)])), (ka, .inl (cJ, cap, .inr (.inl K))), (va, .inl (cJ, cap, .inr (.inl V)))] sz) (fun (n', K', V') => [(h, .inr (0, [.ref ka, .ref va, .int (nI n')])), (ka, .inl (cJ, cap, .inr (.inl K'))), (va, .inl (cJ, cap, .inr (.inl V')))])) (va_A [(h, .inr (0, [.ref ka, .ref va, .int (nI n)])), (ka, .inl (cJ, cap, .inr (.inl K))), (va, .inl (cJ, cap, .inr (.inl V)))] sz)) 0 0 (va_A [(h, .inr (0, [.ref ka, .ref va, .int (nI n)])), (ka, .inl (cJ, cap, .inr (.inl K))), (va, .inl (cJ, cap, .inr (.inl V)))] sz) := by
  refine Met.ofW (cc := cX0_store) (maxL := 8) (ret := (some .long)) (by decide) rfl ?_
  intro p e s m args below meth c s₁ B hml hv
  obtain ⟨rfl, hsz, hP, hK, hD0⟩ := hv
  have hx := B.exec
  have hb := B.bytes
  have hr := B.returns
  have hts := atoms_spec (ws := wsX0_store) B.pre
  have hown : s.vm.findClass RX0 = some m.cls := findClass_of_methodNamed B.named
  have hlocks := B.notSynchronized
  have lk0 := hts (.fieldLink RX0 28 "KeyHall$Sorted" "values" "[J") (by decide +kernel)
  have lk1 : ∀ w ∈ wsX00, w ∈ wsX0_store := by decide +kernel
  have lk2 := hts (.constantLong RX0 48 (4611686018427387904)) (by decide +kernel)
  subst hsz
  have hD := hD0.self (sz := s.heap.size)
  generalize hAe : va_A [(h, .inr (0, [.ref ka, .ref va, .int (nI n)])), (ka, .inl (cJ, cap, .inr (.inl K))), (va, .inl (cJ, cap, .inr (.inl V)))] s.heap.size = A at hD ⊢
  have hA : ∀ q : Nat, s.heap.size ≤ q → A q := fun q h => by rw [← hAe]; exact Or.inr h
  have hS : va_S A s.heap s.heap [] := va_S.rf
  have hP : va_P D vwCl [(h, .inr (0, [.ref ka, .ref va, .int (nI n)])), (ka, .inl (cJ, cap, .inr (.inl K))), (va, .inl (cJ, cap, .inr (.inl V)))] s.heap := hP
  have hl := lv_entry ([.ref h, .long key, .long v]) (n := 8) (Nat.le_of_ble_eq_true rfl)
  rw [lg_entry_eq]
  generalize (lg_sl ([.ref h, .long key, .long v]) ++ List.replicate (8 - (lg_sl ([.ref h, .long key, .long v])).length) Slot.unset).toArray = ls at hl ⊢
  have hl : lv_has ls 8 [(0, .ref h), (1, .long key), (3, .long v)] := hl
  refine lv_aload_n hx hb dX0_store_0 rfl (lv_at hl 0 rfl) ?_
  refine lv_lload_n hx hb dX0_store_1 rfl (lv_at hl 1 rfl) ?_
  refine vp_callSi (va_Run.run (va_runV (As := [.long key]) (rest := []) ⟨hx, hb, hml, hown, hts⟩ (c_X0_below l D cI cJ h ka va cap n K V key (by omega) (by omega) (by assumption)) (cwV 1 hts gX0_store_X0_below rfl rfl rfl (by decide +kernel) ⟨Nat.le_of_ble_eq_true rfl, Nat.le_of_ble_eq_true rfl⟩) (z_preV hK hP [0, 1, 2] rfl 0 0 rfl rfl) rfl rfl hl.1 rfl (lv_room (Nat.le_of_ble_eq_true rfl)) dX0_store_2 ⟨Nat.zero_le _, Nat.zero_le _⟩)) (fun r_1 hr_1 => ?_)
  obtain ⟨b_2, rfl, hb_2⟩ := hr_1
  have hb_2n := hb_2.1
  refine lv_istore (lv' := [(5, .int (nI b_2)), (0, .ref h), (1, .long key), (3, .long v)]) hx hb dX0_store_5 hl (by decide) rfl (fun ls hl => ?_)
  refine lv_aload_n hx hb dX0_store_7 rfl (lv_at hl 1 rfl) ?_
  refine lv_iload hx hb dX0_store_8 (lv_at hl 0 rfl) ?_
  refine lv_lload_n hx hb dX0_store_10 rfl (lv_at hl 2 rfl) ?_
  refine vp_callSi (va_Run.run (va_runV (As := [.int (nI b_2), .long key]) (rest := []) ⟨hx, hb, hml, hown, hts⟩ (c_X0_isKeyAt l D cI cJ h ka va cap n K V b_2 key (by omega) (by omega) (by omega)) (cwV 2 hts gX0_store_X0_isKeyAt rfl rfl rfl (by decide +kernel) ⟨Nat.le_of_ble_eq_true rfl, Nat.le_of_ble_eq_true rfl⟩) (z_preV hK hP [0, 1, 2] rfl 0 0 rfl rfl) rfl rfl hl.1 rfl (lv_room (Nat.le_of_ble_eq_true rfl)) dX0_store_11 ⟨Nat.zero_le _, Nat.zero_le _⟩)) (fun r_3 hr_3 => ?_)
  rcases hr_3 with ⟨hk1, hk2, rfl⟩ | ⟨hk1, rfl⟩
  · refine lv_if_ne (tgt := 29) hx hb dX0_store_14 (by decide) (fun _ => ?_) (fun q => absurd q (by decide))
    refine lv_aload_n hx hb dX0_store_29 rfl (lv_at hl 1 rfl) ?_
    refine va_get (D := D) (ci := 0) (v := .ref va) (C := RX0) (T := TX0) (N := 3) hx hb hts lk1 hown hK hP 0 rfl rfl 1 (by decide) lk0 (fun _ h9 => h9) rfl dX0_store_30 ?_
    refine lv_iload hx hb dX0_store_33 (lv_at hl 0 rfl) ?_
    refine z_lald hx hb hK hP 2 rfl (j := b_2) (by omega) (by omega) dX0_store_35 ?_
    refine lv_lstore (lv' := [(6, .long (V b_2)), (5, .int (nI b_2)), (0, .ref h), (1, .long key), (3, .long v)]) hx hb dX0_store_36 hl (by decide) rfl (fun ls hl => ?_)
    refine lv_aload_n hx hb dX0_store_38 rfl (lv_at hl 2 rfl) ?_
    refine va_get (D := D) (ci := 0) (v := .ref va) (C := RX0) (T := TX0) (N := 3) hx hb hts lk1 hown hK hP 0 rfl rfl 1 (by decide) lk0 (fun _ h9 => h9) rfl dX0_store_39 ?_
    refine lv_iload hx hb dX0_store_42 (lv_at hl 1 rfl) ?_
    refine lv_lload_n hx hb dX0_store_44 rfl (lv_at hl 4 rfl) ?_
    refine z_last hx hb hK hP hD hS 2 rfl (j := b_2) (by omega) (by omega) dX0_store_45 (fun H locs hP hD hS => ?_)
    have hP : va_P D vwCl [(h, .inr (0, [.ref ka, .ref va, .int (nI n)])), (ka, .inl (cJ, cap, .inr (.inl K))), (va, .inl (cJ, cap, .inr (.inl (vp_updL V b_2 v))))] H := hP
    have hD : va_D A [(h, .inr (0, [.ref ka, .ref va, .int (nI n)])), (ka, .inl (cJ, cap, .inr (.inl K))), (va, .inl (cJ, cap, .inr (.inl (vp_updL V b_2 v))))] := hD
    refine lv_lload hx hb dX0_store_46 (lv_at hl 0 rfl) ?_
    exact W.lret (v := V b_2) hx hb hr (fun t ht hW => ⟨⟨V b_2, (n, K, vp_updL V b_2 v), rfl, Or.inl ⟨b_2, hb_2, hk1, hk2, rfl, rfl⟩, by rw [ht]; exact hP, va_K.moved hW.alike hK, hD⟩, hS.F ht⟩) hS.2.2 dX0_store_48
  · refine lv_if_ne (tgt := 29) hx hb dX0_store_14 (by decide) (fun q => absurd (by decide) q) (fun _ => ?_)
    refine lv_aload_n hx hb dX0_store_17 rfl (lv_at hl 1 rfl) ?_
    refine lv_iload hx hb dX0_store_18 (lv_at hl 0 rfl) ?_
    refine lv_lload_n hx hb dX0_store_20 rfl (lv_at hl 2 rfl) ?_
    refine lv_lload_n hx hb dX0_store_21 rfl (lv_at hl 3 rfl) ?_
    have hFc := va_free (wc := [(h, .inr (0, [.ref ka, .ref va, .int (nI n)])), (ka, .inl (cJ, cap, .inr (.inl K))), (va, .inl (cJ, cap, .inr (.inl V)))]) hD hS hA [0, 1, 2] rfl
    refine va_callv (va_runV (As := [.int (nI b_2), .long key, .long v]) (rest := []) ⟨hx, hb, hml, hown, hts⟩ (c_X0_insert l D cI cJ h ka va cap n K V b_2 key v (by omega) (by omega) (by omega) (by omega) s.heap.size) (cwV 3 hts gX0_store_X0_insert rfl rfl rfl (by decide +kernel) ⟨Nat.le_of_ble_eq_true rfl, Nat.le_of_ble_eq_true rfl⟩) (z_preVw hK hP hD [0, 1, 2] (by decide) rfl rfl 0 0 rfl rfl) rfl rfl hl.1 rfl (lv_room (Nat.le_of_ble_eq_true rfl)) dX0_store_22 ⟨Nat.zero_le _, Nat.zero_le _⟩) hS (fun q _ h => hFc q h) hFc (fun u_4 t H1 locs ht hvm hr_5 hB hzz1 hkk1 hS => ?_)
    obtain ⟨n6, K6, V6⟩ := u_4
    obtain ⟨hP1, hK1, hD1⟩ := hB
    rw [ht] at hP1
    try dsimp only at hr_5
    obtain ⟨hP, hD⟩ := va_join (wr := []) (w1 := [(h, .inr (0, [.ref ka, .ref va, .int (nI n6)])), (ka, .inl (cJ, cap, .inr (.inl K6))), (va, .inl (cJ, cap, .inr (.inl V6)))]) hP hD [0, 1, 2] [] rfl rfl (by decide) (by decide) hkk1 hFc hP1 hD1
    generalize H1 = H at hP hS ⊢
    have hP : va_P D vwCl [(h, .inr (0, [.ref ka, .ref va, .int (nI n6)])), (ka, .inl (cJ, cap, .inr (.inl K6))), (va, .inl (cJ, cap, .inr (.inl V6)))] H := hP.sub [0, 1, 2] rfl
    have hD : va_D A [(h, .inr (0, [.ref ka, .ref va, .int (nI n6)])), (ka, .inl (cJ, cap, .inr (.inl K6))), (va, .inl (cJ, cap, .inr (.inl V6)))] := hD.sub [0, 1, 2] (by decide) rfl
    obtain ⟨rfl, rfl, rfl⟩ : n + 1 = n6 ∧ inS K n b_2 key = K6 ∧ inS V n b_2 v = V6 := by injection hr_5 with a1 a2; injection a2 with a2 a3; exact ⟨a1.symm, a2.symm, a3.symm⟩
    refine lv_ldc2 hx hb hown lk2 dX0_store_25 ?_
    exact W.lret (v := 4611686018427387904) hx hb hr (fun t ht hW => ⟨⟨4611686018427387904, (n + 1, inS K n b_2 key, inS V n b_2 v), rfl, Or.inr ⟨b_2, hb_2, hk1, rfl, rfl⟩, by rw [ht]; exact hP, va_K.moved hW.alike hK, hD⟩, hS.F ht⟩) hS.2.2 dX0_store_28

set_option maxHeartbeats 4000000 in
set_option maxRecDepth 100000 in
theorem c_X0_raise (l : Launch) (D : va_G) (cI cJ : ClassId) (h ka va cap n : Nat) (K V : Nat → Int64) (key v : Int64) (hn : n ≤ cap) (hc : cap ≤ 1023) (hs : Srt n K) (hn1 : n < cap) (sz : Nat) : Met l yX0_raise wsX0_raise { frames := 2, cells := 0, slots := 0, locals := 51 } (va_Pc [.ref h, .long key, .long v] (wP D cI cJ [(h, .inr (0, [.ref ka, .ref va, .int (nI n)])), (ka, .inl (cJ, cap, .inr (.inl K))), (va, .inl (cJ, cap, .inr (.inl V)))] sz)) (va_Ql (fun r (u : SS) => RaR n K V key v r u) (wB D cI cJ (va_A [(h, .inr (0, [.ref ka, .ref va, .int (nI n)])), (ka, .inl (cJ, cap, .inr (.inl K))), (va, .inl (cJ, cap, .inr (.inl V)))] sz) (fun (n', K', V') => [(h, .inr (0, [.ref ka, .ref va, .int (nI n')])), (ka, .inl (cJ, cap, .inr (.inl K'))), (va, .inl (cJ, cap, .inr (.inl V')))])) (va_A [(h, .inr (0, [.ref ka, .ref va, .int (nI n)])), (ka, .inl (cJ, cap, .inr (.inl K))), (va, .inl (cJ, cap, .inr (.inl V)))] sz)) 0 0 (va_A [(h, .inr (0, [.ref ka, .ref va, .int (nI n)])), (ka, .inl (cJ, cap, .inr (.inl K))), (va, .inl (cJ, cap, .inr (.inl V)))] sz) := by
  refine Met.ofW (cc := cX0_raise) (maxL := 6) (ret := (some .long)) (by decide) rfl ?_
  intro p e s m args below meth c s₁ B hml hv
  obtain ⟨rfl, hsz, hP, hK, hD0⟩ := hv
  have hx := B.exec
  have hb := B.bytes
  have hr := B.returns
  have hts := atoms_spec (ws := wsX0_raise) B.pre
  have hown : s.vm.findClass RX0 = some m.cls := findClass_of_methodNamed B.named
  have hlocks := B.notSynchronized
  have lk0 := hts (.fieldLink RX0 28 "KeyHall$Sorted" "values" "[J") (by decide +kernel)
  have lk1 : ∀ w ∈ wsX00, w ∈ wsX0_raise := by decide +kernel
  subst hsz
  have hD := hD0.self (sz := s.heap.size)
  generalize hAe : va_A [(h, .inr (0, [.ref ka, .ref va, .int (nI n)])), (ka, .inl (cJ, cap, .inr (.inl K))), (va, .inl (cJ, cap, .inr (.inl V)))] s.heap.size = A at hD ⊢
  have hA : ∀ q : Nat, s.heap.size ≤ q → A q := fun q h => by rw [← hAe]; exact Or.inr h
  have hS : va_S A s.heap s.heap [] := va_S.rf
  have hP : va_P D vwCl [(h, .inr (0, [.ref ka, .ref va, .int (nI n)])), (ka, .inl (cJ, cap, .inr (.inl K))), (va, .inl (cJ, cap, .inr (.inl V)))] s.heap := hP
  have hl := lv_entry ([.ref h, .long key, .long v]) (n := 6) (Nat.le_of_ble_eq_true rfl)
  rw [lg_entry_eq]
  generalize (lg_sl ([.ref h, .long key, .long v]) ++ List.replicate (6 - (lg_sl ([.ref h, .long key, .long v])).length) Slot.unset).toArray = ls at hl ⊢
  have hl : lv_has ls 6 [(0, .ref h), (1, .long key), (3, .long v)] := hl
  refine lv_aload_n hx hb dX0_raise_0 rfl (lv_at hl 0 rfl) ?_
  refine lv_lload_n hx hb dX0_raise_1 rfl (lv_at hl 1 rfl) ?_
  refine vp_callSi (va_Run.run (va_runV (As := [.long key]) (rest := []) ⟨hx, hb, hml, hown, hts⟩ (c_X0_below l D cI cJ h ka va cap n K V key (by omega) (by omega) (by assumption)) (cwV 1 hts gX0_raise_X0_below rfl rfl rfl (by decide +kernel) ⟨Nat.le_of_ble_eq_true rfl, Nat.le_of_ble_eq_true rfl⟩) (z_preV hK hP [0, 1, 2] rfl 0 0 rfl rfl) rfl rfl hl.1 rfl (lv_room (Nat.le_of_ble_eq_true rfl)) dX0_raise_2 ⟨Nat.zero_le _, Nat.zero_le _⟩)) (fun r_1 hr_1 => ?_)
  obtain ⟨b_2, rfl, hb_2⟩ := hr_1
  have hb_2n := hb_2.1
  refine lv_istore (lv' := [(5, .int (nI b_2)), (0, .ref h), (1, .long key), (3, .long v)]) hx hb dX0_raise_5 hl (by decide) rfl (fun ls hl => ?_)
  refine lv_aload_n hx hb dX0_raise_7 rfl (lv_at hl 1 rfl) ?_
  refine lv_iload hx hb dX0_raise_8 (lv_at hl 0 rfl) ?_
  refine lv_lload_n hx hb dX0_raise_10 rfl (lv_at hl 2 rfl) ?_
  refine vp_callSi (va_Run.run (va_runV (As := [.int (nI b_2), .long key]) (rest := []) ⟨hx, hb, hml, hown, hts⟩ (c_X0_isKeyAt l D cI cJ h ka va cap n K V b_2 key (by omega) (by omega) (by omega)) (cwV 2 hts gX0_raise_X0_isKeyAt rfl rfl rfl (by decide +kernel) ⟨Nat.le_of_ble_eq_true rfl, Nat.le_of_ble_eq_true rfl⟩) (z_preV hK hP [0, 1, 2] rfl 0 0 rfl rfl) rfl rfl hl.1 rfl (lv_room (Nat.le_of_ble_eq_true rfl)) dX0_raise_11 ⟨Nat.zero_le _, Nat.zero_le _⟩)) (fun r_3 hr_3 => ?_)
  rcases hr_3 with ⟨hk1, hk2, rfl⟩ | ⟨hk1, rfl⟩
  · refine lv_if_ne (tgt := 27) hx hb dX0_raise_14 (by decide) (fun _ => ?_) (fun q => absurd q (by decide))
    refine lv_aload_n hx hb dX0_raise_27 rfl (lv_at hl 1 rfl) ?_
    refine va_get (D := D) (ci := 0) (v := .ref va) (C := RX0) (T := TX0) (N := 3) hx hb hts lk1 hown hK hP 0 rfl rfl 1 (by decide) lk0 (fun _ h9 => h9) rfl dX0_raise_28 ?_
    refine lv_iload hx hb dX0_raise_31 (lv_at hl 0 rfl) ?_
    refine lv_dup2_11 hx hb dX0_raise_33 rfl rfl ?_
    refine z_lald hx hb hK hP 2 rfl (j := b_2) (by omega) (by omega) dX0_raise_34 ?_
    refine lv_lload_n hx hb dX0_raise_35 rfl (lv_at hl 3 rfl) ?_
    refine lv_ladd hx hb dX0_raise_36 ?_
    refine z_last hx hb hK hP hD hS 2 rfl (j := b_2) (by omega) (by omega) dX0_raise_37 (fun H locs hP hD hS => ?_)
    have hP : va_P D vwCl [(h, .inr (0, [.ref ka, .ref va, .int (nI n)])), (ka, .inl (cJ, cap, .inr (.inl K))), (va, .inl (cJ, cap, .inr (.inl (vp_updL V b_2 ((V b_2) + v)))))] H := hP
    have hD : va_D A [(h, .inr (0, [.ref ka, .ref va, .int (nI n)])), (ka, .inl (cJ, cap, .inr (.inl K))), (va, .inl (cJ, cap, .inr (.inl (vp_updL V b_2 ((V b_2) + v)))))] := hD
    refine lv_aload_n hx hb dX0_raise_38 rfl (lv_at hl 1 rfl) ?_
    refine va_get (D := D) (ci := 0) (v := .ref va) (C := RX0) (T := TX0) (N := 3) hx hb hts lk1 hown hK hP 0 rfl rfl 1 (by decide) lk0 (fun _ h9 => h9) rfl dX0_raise_39 ?_
    refine lv_iload hx hb dX0_raise_42 (lv_at hl 0 rfl) ?_
    refine z_lald hx hb hK hP 2 rfl (j := b_2) (by omega) (by omega) dX0_raise_44 ?_
    exact W.lret (v := (vp_updL V b_2 ((V b_2) + v)) b_2) hx hb hr (fun t ht hW => ⟨⟨(vp_updL V b_2 ((V b_2) + v)) b_2, (n, K, vp_updL V b_2 (V b_2 + v)), rfl, Or.inl ⟨b_2, hb_2, hk1, hk2, pk_uLs, rfl⟩, by rw [ht]; exact hP, va_K.moved hW.alike hK, hD⟩, hS.F ht⟩) hS.2.2 dX0_raise_45
  · refine lv_if_ne (tgt := 27) hx hb dX0_raise_14 (by decide) (fun q => absurd (by decide) q) (fun _ => ?_)
    refine lv_aload_n hx hb dX0_raise_17 rfl (lv_at hl 1 rfl) ?_
    refine lv_iload hx hb dX0_raise_18 (lv_at hl 0 rfl) ?_
    refine lv_lload_n hx hb dX0_raise_20 rfl (lv_at hl 2 rfl) ?_
    refine lv_lload_n hx hb dX0_raise_21 rfl (lv_at hl 3 rfl) ?_
    have hFc := va_free (wc := [(h, .inr (0, [.ref ka, .ref va, .int (nI n)])), (ka, .inl (cJ, cap, .inr (.inl K))), (va, .inl (cJ, cap, .inr (.inl V)))]) hD hS hA [0, 1, 2] rfl
    refine va_callv (va_runV (As := [.int (nI b_2), .long key, .long v]) (rest := []) ⟨hx, hb, hml, hown, hts⟩ (c_X0_insert l D cI cJ h ka va cap n K V b_2 key v (by omega) (by omega) (by omega) (by omega) s.heap.size) (cwV 3 hts gX0_raise_X0_insert rfl rfl rfl (by decide +kernel) ⟨Nat.le_of_ble_eq_true rfl, Nat.le_of_ble_eq_true rfl⟩) (z_preVw hK hP hD [0, 1, 2] (by decide) rfl rfl 0 0 rfl rfl) rfl rfl hl.1 rfl (lv_room (Nat.le_of_ble_eq_true rfl)) dX0_raise_22 ⟨Nat.zero_le _, Nat.zero_le _⟩) hS (fun q _ h => hFc q h) hFc (fun u_4 t H1 locs ht hvm hr_5 hB hzz1 hkk1 hS => ?_)
    obtain ⟨n6, K6, V6⟩ := u_4
    obtain ⟨hP1, hK1, hD1⟩ := hB
    rw [ht] at hP1
    try dsimp only at hr_5
    obtain ⟨hP, hD⟩ := va_join (wr := []) (w1 := [(h, .inr (0, [.ref ka, .ref va, .int (nI n6)])), (ka, .inl (cJ, cap, .inr (.inl K6))), (va, .inl (cJ, cap, .inr (.inl V6)))]) hP hD [0, 1, 2] [] rfl rfl (by decide) (by decide) hkk1 hFc hP1 hD1
    generalize H1 = H at hP hS ⊢
    have hP : va_P D vwCl [(h, .inr (0, [.ref ka, .ref va, .int (nI n6)])), (ka, .inl (cJ, cap, .inr (.inl K6))), (va, .inl (cJ, cap, .inr (.inl V6)))] H := hP.sub [0, 1, 2] rfl
    have hD : va_D A [(h, .inr (0, [.ref ka, .ref va, .int (nI n6)])), (ka, .inl (cJ, cap, .inr (.inl K6))), (va, .inl (cJ, cap, .inr (.inl V6)))] := hD.sub [0, 1, 2] (by decide) rfl
    obtain ⟨rfl, rfl, rfl⟩ : n + 1 = n6 ∧ inS K n b_2 key = K6 ∧ inS V n b_2 v = V6 := by injection hr_5 with a1 a2; injection a2 with a2 a3; exact ⟨a1.symm, a2.symm, a3.symm⟩
    refine lv_lload_n hx hb dX0_raise_25 rfl (lv_at hl 3 rfl) ?_
    exact W.lret (v := v) hx hb hr (fun t ht hW => ⟨⟨v, (n + 1, inS K n b_2 key, inS V n b_2 v), rfl, Or.inr ⟨b_2, hb_2, hk1, rfl, rfl⟩, by rw [ht]; exact hP, va_K.moved hW.alike hK, hD⟩, hS.F ht⟩) hS.2.2 dX0_raise_26

theorem mx_0 {a : Nat} (h : a < 2 ^ 31) : (if nI 0 < nI a then nI a else nI 0) = nI a := by
  by_cases q : 0 < a
  · rw [if_pos ((nI_ltI (by omega) (by omega)).mpr q)]
  · rw [show a = 0 by omega]; rfl

set_option maxHeartbeats 4000000 in
set_option maxRecDepth 100000 in
theorem c_X0_init (l : Launch) (D : va_G) (cI cJ : ClassId) (h rm : Nat) (hrm : rm ≤ 1023) (sz : Nat) : Met l yX0_init wsX0_init { frames := 1, cells := 2, slots := 2 * rm, locals := 22 } (va_Pc [.ref h, .int (nI rm)] (wP D cI cJ [(h, .inr (0, [.null, .null, .int (nI 0)]))] sz)) (va_Qv (fun (_ : Nat × Nat) => True) (wB D cI cJ (va_A [(h, .inr (0, [.null, .null, .int (nI 0)]))] sz) (fun (ka, va) => [(h, .inr (0, [.ref ka, .ref va, .int (nI 0)])), (ka, .inl (cJ, rm, .inr (.inl (fun _ => 0)))), (va, .inl (cJ, rm, .inr (.inl (fun _ => 0))))])) (va_A [(h, .inr (0, [.null, .null, .int (nI 0)]))] sz)) 2 (2 * rm) (va_A [(h, .inr (0, [.null, .null, .int (nI 0)]))] sz) := by
  refine Met.ofW (cc := cX0_init) (maxL := 3) (ret := none) (by decide) rfl ?_
  intro p e s m args below meth c s₁ B hml hv
  obtain ⟨rfl, hsz, hP, hK, hD0⟩ := hv
  have hx := B.exec
  have hb := B.bytes
  have hr := B.returns
  have hts := atoms_spec (ws := wsX0_init) B.pre
  have hown : s.vm.findClass RX0 = some m.cls := findClass_of_methodNamed B.named
  have hlocks := B.notSynchronized
  have hin : meth.name = "<init>" := (name_of_methodNamed B.named B.method).1
  have lk0 := hts (.methodLink RX0 5 objectInit) (by decide +kernel)
  have lk1 := hts (.instanceMethod objectInit) (by decide +kernel)
  have lk2 := hts (.code objectInit ⟨#[0xb1]⟩ 1 none) (by decide +kernel)
  have lk3 := hts (.fieldLink RX0 11 "KeyHall$Sorted" "held" "I") (by decide +kernel)
  have lk4 : ∀ w ∈ wsX00, w ∈ wsX0_init := by decide +kernel
  have lk5 := hts (.methodLink RX0 15 Lib.Math.min.name) (by decide +kernel)
  have lk6 := hts (.static Lib.Math.min.name) (by decide +kernel)
  have lk7 := hts (.initialized "java/lang/Math") (by decide +kernel)
  have lk8 := hts (.code Lib.Math.min.name Lib.Math.min.code 2 (some .int)) (by decide +kernel)
  have lk9 := hts (.methodLink RX0 21 Lib.Math.max.name) (by decide +kernel)
  have lk10 := hts (.static Lib.Math.max.name) (by decide +kernel)
  have lk11 := hts (.code Lib.Math.max.name Lib.Math.max.code 2 (some .int)) (by decide +kernel)
  have lk12 := hts (.arrayClass .long) (by decide +kernel)
  have lk13 := hts (.fieldLink RX0 24 "KeyHall$Sorted" "keys" "[J") (by decide +kernel)
  have lk14 := hts (.fieldLink RX0 28 "KeyHall$Sorted" "values" "[J") (by decide +kernel)
  subst hsz
  have hD := hD0.self (sz := s.heap.size)
  generalize hAe : va_A [(h, .inr (0, [.null, .null, .int (nI 0)]))] s.heap.size = A at hD ⊢
  have hA : ∀ q : Nat, s.heap.size ≤ q → A q := fun q h => by rw [← hAe]; exact Or.inr h
  have hS : va_S A s.heap s.heap [] := va_S.rf
  have hP : va_P D vwCl [(h, .inr (0, [.null, .null, .int (nI 0)]))] s.heap := hP
  have hl := lv_entry ([.ref h, .int (nI rm)]) (n := 3) (Nat.le_of_ble_eq_true rfl)
  rw [lg_entry_eq]
  generalize (lg_sl ([.ref h, .int (nI rm)]) ++ List.replicate (3 - (lg_sl ([.ref h, .int (nI rm)])).length) Slot.unset).toArray = ls at hl ⊢
  have hl : lv_has ls 3 [(0, .ref h), (1, .int (nI rm))] := hl
  refine lv_aload_n hx hb dX0_init_0 rfl (lv_at hl 0 rfl) ?_
  refine W.objInit hx hb hown lk0 lk1 lk2 rfl (by rw [hml]; exact hl.1) rfl dX0_init_1 (Nat.le_of_ble_eq_true rfl) (Nat.le_of_ble_eq_true rfl) ?_
  refine W.eq (g2 := F0 m 4 ls []) rfl ?_
  refine lv_aload_n hx hb dX0_init_4 rfl (lv_at hl 0 rfl) ?_
  refine lv_iconst (v := nI 0) hx hb dX0_init_5 (by decide) ?_
  refine va_put (D := D) (ci := 0) (v := .int (nI 0)) (ty := .int) (C := RX0) (T := TX0) (N := 3) hx hb hts lk4 tyX0 tyX0_ok nmX0 hown hK hP hD hS 0 rfl rfl 2 (by decide) lk3 (fun _ h9 => h9) rfl (by decide +kernel) rfl rfl (Nat.le_of_ble_eq_true rfl) dX0_init_6 (fun H locs hP hD hS => ?_)
  have hP : va_P D vwCl [(h, .inr (0, [.null, .null, .int (nI 0)]))] H := hP
  have hD : va_D A [(h, .inr (0, [.null, .null, .int (nI 0)]))] := hD
  refine lv_iconst (v := nI 0) hx hb dX0_init_9 (by decide) ?_
  refine lv_iload_n hx hb dX0_init_10 rfl (lv_at hl 1 rfl) ?_
  refine lv_sipush (v := nI 1023) hx hb dX0_init_11 (by decide) ?_
  refine va_mmin hx hb (by rw [hml]; exact hl.1.symm) hown lk5 lk6 lk7 lk8 (Nat.le_of_ble_eq_true rfl) (Nat.le_of_ble_eq_true rfl) (Nat.zero_le _) (Nat.zero_le _) dX0_init_14 ?_
  refine z_topi (y := nI rm) (by rw [if_neg (fun q => absurd ((nI_ltI (by omega) (by omega)).mp q) (by omega))]) ?_
  refine va_mmax hx hb (by rw [hml]; exact hl.1.symm) hown lk9 lk10 lk7 lk11 (Nat.le_of_ble_eq_true rfl) (Nat.le_of_ble_eq_true rfl) (Nat.zero_le _) (Nat.zero_le _) dX0_init_17 ?_
  refine z_topi (y := nI rm) (mx_0 (by omega)) ?_
  refine lv_istore_n (lv' := [(2, .int (nI rm)), (0, .ref h), (1, .int (nI rm))]) hx hb dX0_init_20 rfl hl (by decide) rfl (fun ls hl => ?_)
  refine lv_aload_n hx hb dX0_init_21 rfl (lv_at hl 1 rfl) ?_
  refine lv_iload_n hx hb dX0_init_22 rfl (lv_at hl 0 rfl) ?_
  refine z_newJ (N := rm) hx hb lk12 hK hP hD hS hA (by omega) (by show _ ≤ 2; omega) (by show _ ≤ 2 * rm; omega) dX0_init_23 (fun q_1 H hP hD hS => ?_)
  have hP : va_P D vwCl [(h, .inr (0, [.null, .null, .int (nI 0)])), (q_1, .inl (cJ, rm, .inr (.inl (fun _ => 0))))] H := hP
  have hD : va_D A [(h, .inr (0, [.null, .null, .int (nI 0)])), (q_1, .inl (cJ, rm, .inr (.inl (fun _ => 0))))] := hD
  refine va_putF (D := D) (ci := 0) (v := .ref q_1) (ty := .array .long) (C := RX0) (T := TX0) (N := 3) hx hb hts lk4 tyX0 tyX0_ok nmX0 hown hK hP hD hS 0 rfl rfl 0 (by decide) lk13 (fun _ h9 => h9) rfl hin rfl (by decide +kernel) rfl rfl (Nat.le_of_ble_eq_true rfl) dX0_init_25 (fun H locs hP hD hS => ?_)
  have hP : va_P D vwCl [(h, .inr (0, [.ref q_1, .null, .int (nI 0)])), (q_1, .inl (cJ, rm, .inr (.inl (fun _ => 0))))] H := hP
  have hD : va_D A [(h, .inr (0, [.ref q_1, .null, .int (nI 0)])), (q_1, .inl (cJ, rm, .inr (.inl (fun _ => 0))))] := hD
  refine lv_aload_n hx hb dX0_init_28 rfl (lv_at hl 1 rfl) ?_
  refine lv_iload_n hx hb dX0_init_29 rfl (lv_at hl 0 rfl) ?_
  refine z_newJ (N := rm) hx hb lk12 hK hP hD hS hA (by omega) (by show _ ≤ 2; omega) (by show _ ≤ 2 * rm; omega) dX0_init_30 (fun q_2 H hP hD hS => ?_)
  have hP : va_P D vwCl [(h, .inr (0, [.ref q_1, .null, .int (nI 0)])), (q_1, .inl (cJ, rm, .inr (.inl (fun _ => 0)))), (q_2, .inl (cJ, rm, .inr (.inl (fun _ => 0))))] H := hP
  have hD : va_D A [(h, .inr (0, [.ref q_1, .null, .int (nI 0)])), (q_1, .inl (cJ, rm, .inr (.inl (fun _ => 0)))), (q_2, .inl (cJ, rm, .inr (.inl (fun _ => 0))))] := hD
  refine va_putF (D := D) (ci := 0) (v := .ref q_2) (ty := .array .long) (C := RX0) (T := TX0) (N := 3) hx hb hts lk4 tyX0 tyX0_ok nmX0 hown hK hP hD hS 0 rfl rfl 1 (by decide) lk14 (fun _ h9 => h9) rfl hin rfl (by decide +kernel) rfl rfl (Nat.le_of_ble_eq_true rfl) dX0_init_32 (fun H locs hP hD hS => ?_)
  have hP : va_P D vwCl [(h, .inr (0, [.ref q_1, .ref q_2, .int (nI 0)])), (q_1, .inl (cJ, rm, .inr (.inl (fun _ => 0)))), (q_2, .inl (cJ, rm, .inr (.inl (fun _ => 0))))] H := hP
  have hD : va_D A [(h, .inr (0, [.ref q_1, .ref q_2, .int (nI 0)])), (q_1, .inl (cJ, rm, .inr (.inl (fun _ => 0)))), (q_2, .inl (cJ, rm, .inr (.inl (fun _ => 0))))] := hD
  refine W.widen (k := 2) (n := 2 * rm) (by omega) (by omega) ?_
  exact W.vret hx hb hr (fun t ht hW => ⟨⟨(q_1, q_2), rfl, trivial, by rw [ht]; exact hP, va_K.moved hW.alike hK, hD⟩, hS.F ht⟩) hS.2.2 dX0_init_35
