/-! the model: points, the table, size, the constructor -/
set_option maxHeartbeats 4000000 in
set_option maxRecDepth 100000 in
theorem c_X3_mark (l : Launch) (D : va_G) (cI cJ : ClassId) (y r0 r1 r2 r3 r4 r5 wd tp wm tm : Nat) (a0 b0 v0 cap n : Nat) (fa fb : Nat → Int32) (fv : Nat → Int64) (hn : n ≤ cap) (hc : cap ≤ 1100) (h16 : 16 ≤ cap) (hn5 : n ≤ 549) (a b : Int32) (sz : Nat) : Met l yX3_mark wsX3_mark { frames := 1, cells := 3, slots := 6600, locals := 28 } (va_Pc [.ref y, .int a, .int b] (wP D cI cJ [(y, .inr (3, [.ref r0, .ref r1, .ref r2, .ref r3, .ref r4, .ref r5, .ref wd, .ref tp, .int (nI wm), .int (nI tm)])), (r3, .inr (2, [.ref a0, .ref b0, .ref v0, .int (nI n)])), (a0, .inl (cI, cap, .inl fa)), (b0, .inl (cI, cap, .inl fb)), (v0, .inl (cJ, cap, .inr (.inl fv)))] sz)) (va_Qi (fun r (u : Nat × Nat × Nat × Nat × Nat × (Nat → Int32) × (Nat → Int32) × (Nat → Int64)) => match u with | (a', b', v', cap', n', fa', fb', fv') => ROK n' cap' ∧ (r = nI n' ∧ ((∃ (j : Nat) (e : RT), (rl n fa fb fv)[j]? = some e ∧ e.1 = a ∧ e.2.1 = b ∧ (rl n' fa' fb' fv') = (rl n fa fb fv).eraseIdx j) ∨ ((∀ e, e ∈ (rl n fa fb fv) → ¬ (e.1 = a ∧ e.2.1 = b)) ∧ (rl n' fa' fb' fv') = (rl n fa fb fv) ++ [(a, b, 0)])))) (wB D cI cJ (va_A [(y, .inr (3, [.ref r0, .ref r1, .ref r2, .ref r3, .ref r4, .ref r5, .ref wd, .ref tp, .int (nI wm), .int (nI tm)])), (r3, .inr (2, [.ref a0, .ref b0, .ref v0, .int (nI n)])), (a0, .inl (cI, cap, .inl fa)), (b0, .inl (cI, cap, .inl fb)), (v0, .inl (cJ, cap, .inr (.inl fv)))] sz) (fun (a', b', v', cap', n', fa', fb', fv') => [(y, .inr (3, [.ref r0, .ref r1, .ref r2, .ref r3, .ref r4, .ref r5, .ref wd, .ref tp, .int (nI wm), .int (nI tm)])), (r3, .inr (2, [.ref a', .ref b', .ref v', .int (nI n')])), (a', .inl (cI, cap', .inl fa')), (b', .inl (cI, cap', .inl fb')), (v', .inl (cJ, cap', .inr (.inl fv')))])) (va_A [(y, .inr (3, [.ref r0, .ref r1, .ref r2, .ref r3, .ref r4, .ref r5, .ref wd, .ref tp, .int (nI wm), .int (nI tm)])), (r3, .inr (2, [.ref a0, .ref b0, .ref v0, .int (nI n)])), (a0, .inl (cI, cap, .inl fa)), (b0, .inl (cI, cap, .inl fb)), (v0, .inl (cJ, cap, .inr (.inl fv)))] sz)) 3 6600 (va_A [(y, .inr (3, [.ref r0, .ref r1, .ref r2, .ref r3, .ref r4, .ref r5, .ref wd, .ref tp, .int (nI wm), .int (nI tm)])), (r3, .inr (2, [.ref a0, .ref b0, .ref v0, .int (nI n)])), (a0, .inl (cI, cap, .inl fa)), (b0, .inl (cI, cap, .inl fb)), (v0, .inl (cJ, cap, .inr (.inl fv)))] sz) := by
  refine Met.ofW (cc := cX3_mark) (maxL := 4) (ret := (some .int)) (by decide) rfl ?_
  intro p e s m args below meth c s₁ B hml hv
  obtain ⟨rfl, hsz, hP, hK, hD0⟩ := hv
  have hx := B.exec
  have hb := B.bytes
  have hr := B.returns
  have hts := atoms_spec (ws := wsX3_mark) B.pre
  have hown : s.vm.findClass RX3 = some m.cls := findClass_of_methodNamed B.named
  have hlocks := B.notSynchronized
  have lk0 := hts (.fieldLink RX3 22 "KeyHallModel" "points" "LKeyHallModel$Rows;") (by decide +kernel)
  have lk1 : ∀ w ∈ wsX30, w ∈ wsX3_mark := by decide +kernel
  have lk2 := hts (.fieldLink RX3 46 "KeyHallModel$Rows" "many" "I") (by decide +kernel)
  have lk3 : ∀ w ∈ wsX20, w ∈ wsX3_mark := by decide +kernel
  subst hsz
  have hD := hD0.self (sz := s.heap.size)
  generalize hAe : va_A [(y, .inr (3, [.ref r0, .ref r1, .ref r2, .ref r3, .ref r4, .ref r5, .ref wd, .ref tp, .int (nI wm), .int (nI tm)])), (r3, .inr (2, [.ref a0, .ref b0, .ref v0, .int (nI n)])), (a0, .inl (cI, cap, .inl fa)), (b0, .inl (cI, cap, .inl fb)), (v0, .inl (cJ, cap, .inr (.inl fv)))] s.heap.size = A at hD ⊢
  have hA : ∀ q : Nat, s.heap.size ≤ q → A q := fun q h => by rw [← hAe]; exact Or.inr h
  have hS : va_S A s.heap s.heap [] := va_S.rf
  have hP : va_P D vwCl [(y, .inr (3, [.ref r0, .ref r1, .ref r2, .ref r3, .ref r4, .ref r5, .ref wd, .ref tp, .int (nI wm), .int (nI tm)])), (r3, .inr (2, [.ref a0, .ref b0, .ref v0, .int (nI n)])), (a0, .inl (cI, cap, .inl fa)), (b0, .inl (cI, cap, .inl fb)), (v0, .inl (cJ, cap, .inr (.inl fv)))] s.heap := hP
  have hl := lv_entry ([.ref y, .int a, .int b]) (n := 4) (Nat.le_of_ble_eq_true rfl)
  rw [lg_entry_eq]
  generalize (lg_sl ([.ref y, .int a, .int b]) ++ List.replicate (4 - (lg_sl ([.ref y, .int a, .int b])).length) Slot.unset).toArray = ls at hl ⊢
  have hl : lv_has ls 4 [(0, .ref y), (1, .int a), (2, .int b)] := hl
  refine lv_aload_n hx hb dX3_mark_0 rfl (lv_at hl 0 rfl) ?_
  refine va_get (D := D) (ci := 3) (v := .ref r3) (C := RX3) (T := TX3) (N := 10) hx hb hts lk1 hown hK hP 0 rfl rfl 3 (by decide) lk0 (fun _ h9 => h9) rfl dX3_mark_1 ?_
  refine lv_iload_n hx hb dX3_mark_4 rfl (lv_at hl 1 rfl) ?_
  refine lv_iload_n hx hb dX3_mark_5 rfl (lv_at hl 2 rfl) ?_
  refine vp_callSi (va_Run.run (va_runV (As := [.int a, .int b]) (rest := []) ⟨hx, hb, hml, hown, hts⟩ (c_X2_find l D cI cJ r3 a0 b0 v0 cap n fa fb fv a b (by omega) (by omega)) (cwV 2 hts gX3_mark_X2_find rfl rfl rfl (by decide +kernel) ⟨Nat.le_of_ble_eq_true rfl, Nat.le_of_ble_eq_true rfl⟩) (z_preV hK hP [1, 2, 3, 4] rfl 2 1 rfl rfl) rfl rfl hl.1 rfl (lv_room (Nat.le_of_ble_eq_true rfl)) dX3_mark_6 ⟨by show _ ≤ 3; omega, by show _ ≤ 6600; omega⟩)) (fun r_1 hr_1 => ?_)
  rcases hr_1 with ⟨j_2, e_f, he, hea, heb, rfl⟩ | ⟨hnf, rfl⟩
  · obtain ⟨hj, hja, hjb, hjv⟩ := rl_lt he
    refine lv_istore_n (lv' := [(3, .int (nI j_2)), (0, .ref y), (1, .int a), (2, .int b)]) hx hb dX3_mark_9 rfl hl (by decide) rfl (fun ls hl => ?_)
    refine lv_iload_n hx hb dX3_mark_10 rfl (lv_at hl 0 rfl) ?_
    refine z_if_ge (tgt := 27) hx hb dX3_mark_11 (by decide) (by omega) ?_
    refine lv_aload_n hx hb dX3_mark_27 rfl (lv_at hl 1 rfl) ?_
    refine va_get (D := D) (ci := 3) (v := .ref r3) (C := RX3) (T := TX3) (N := 10) hx hb hts lk1 hown hK hP 0 rfl rfl 3 (by decide) lk0 (fun _ h9 => h9) rfl dX3_mark_28 ?_
    refine lv_iload_n hx hb dX3_mark_31 rfl (lv_at hl 0 rfl) ?_
    have hFc := va_free (wc := [(r3, .inr (2, [.ref a0, .ref b0, .ref v0, .int (nI n)])), (a0, .inl (cI, cap, .inl fa)), (b0, .inl (cI, cap, .inl fb)), (v0, .inl (cJ, cap, .inr (.inl fv)))]) hD hS hA [1, 2, 3, 4] rfl
    refine va_callv (va_runV (As := [.int (nI j_2)]) (rest := []) ⟨hx, hb, hml, hown, hts⟩ (c_X2_remove l D cI cJ r3 a0 b0 v0 cap n fa fb fv j_2 (by omega) (by omega) (by omega) s.heap.size) (cwV 1 hts gX3_mark_X2_remove rfl rfl rfl (by decide +kernel) ⟨Nat.le_of_ble_eq_true rfl, Nat.le_of_ble_eq_true rfl⟩) (z_preVw hK hP hD [1, 2, 3, 4] (by decide) rfl rfl 2 1 rfl rfl) rfl rfl hl.1 rfl (lv_room (Nat.le_of_ble_eq_true rfl)) dX3_mark_32 ⟨by show _ ≤ 3; omega, by show _ ≤ 6600; omega⟩) hS (fun q _ h => hFc q h) hFc (fun u_4 t H1 locs ht hvm hr_3 hB hzz1 hkk1 hS => ?_)
    obtain ⟨hP1, hK1, hD1⟩ := hB
    rw [ht] at hP1
    try dsimp only at hr_3
    obtain ⟨hP, hD⟩ := va_join (wr := [(y, .inr (3, [.ref r0, .ref r1, .ref r2, .ref r3, .ref r4, .ref r5, .ref wd, .ref tp, .int (nI wm), .int (nI tm)]))]) (w1 := [(r3, .inr (2, [.ref a0, .ref b0, .ref v0, .int (nI (n - 1))])), (a0, .inl (cI, cap, .inl (shf fa j_2 (n - 1)))), (b0, .inl (cI, cap, .inl (shf fb j_2 (n - 1)))), (v0, .inl (cJ, cap, .inr (.inl (shf fv j_2 (n - 1)))))]) hP hD [1, 2, 3, 4] [0] rfl rfl (by decide) (by decide) hkk1 hFc hP1 hD1
    generalize H1 = H at hP hS ⊢
    have hP : va_P D vwCl [(y, .inr (3, [.ref r0, .ref r1, .ref r2, .ref r3, .ref r4, .ref r5, .ref wd, .ref tp, .int (nI wm), .int (nI tm)])), (r3, .inr (2, [.ref a0, .ref b0, .ref v0, .int (nI (n - 1))])), (a0, .inl (cI, cap, .inl (shf fa j_2 (n - 1)))), (b0, .inl (cI, cap, .inl (shf fb j_2 (n - 1)))), (v0, .inl (cJ, cap, .inr (.inl (shf fv j_2 (n - 1)))))] H := hP.sub [0, 1, 2, 3, 4] rfl
    have hD : va_D A [(y, .inr (3, [.ref r0, .ref r1, .ref r2, .ref r3, .ref r4, .ref r5, .ref wd, .ref tp, .int (nI wm), .int (nI tm)])), (r3, .inr (2, [.ref a0, .ref b0, .ref v0, .int (nI (n - 1))])), (a0, .inl (cI, cap, .inl (shf fa j_2 (n - 1)))), (b0, .inl (cI, cap, .inl (shf fb j_2 (n - 1)))), (v0, .inl (cJ, cap, .inr (.inl (shf fv j_2 (n - 1)))))] := hD.sub [0, 1, 2, 3, 4] (by decide) rfl
    refine lv_aload_n hx hb dX3_mark_35 rfl (lv_at hl 1 rfl) ?_
    refine va_get (D := D) (ci := 3) (v := .ref r3) (C := RX3) (T := TX3) (N := 10) hx hb hts lk1 hown hK hP 0 rfl rfl 3 (by decide) lk0 (fun _ h9 => h9) rfl dX3_mark_36 ?_
    refine va_get (D := D) (ci := 2) (v := .int (nI (n - 1))) (C := RX2) (T := TX2) (N := 4) hx hb hts lk3 hown hK hP 1 rfl rfl 3 (by decide) lk2 (fun _ h9 => h9) rfl dX3_mark_39 ?_
    refine W.widen (k := 3) (n := 6600) (by omega) (by omega) ?_
    exact W.iret (v := nI (n - 1)) hx hb hr (fun t ht hW => ⟨⟨nI (n - 1), (a0, b0, v0, cap, n - 1, shf fa j_2 (n - 1), shf fb j_2 (n - 1), shf fv j_2 (n - 1)), rfl, ⟨⟨by omega, h16, hc⟩, rfl, Or.inl ⟨j_2, e_f, he, hea, heb, rl_era hj⟩⟩, by rw [ht]; exact (hP.sub [0, 1, 2, 3, 4] rfl), va_K.moved hW.alike hK, (hD.sub [0, 1, 2, 3, 4] (by decide) rfl)⟩, hS.F ht⟩) hS.2.2 dX3_mark_42
  · refine lv_istore_n (lv' := [(3, .int (-1)), (0, .ref y), (1, .int a), (2, .int b)]) hx hb dX3_mark_9 rfl hl (by decide) rfl (fun ls hl => ?_)
    refine lv_iload_n hx hb dX3_mark_10 rfl (lv_at hl 0 rfl) ?_
    refine lv_if_ge (tgt := 27) hx hb dX3_mark_11 (by decide) (fun q => absurd q (by decide)) (fun _ => ?_)
    refine lv_aload_n hx hb dX3_mark_14 rfl (lv_at hl 1 rfl) ?_
    refine va_get (D := D) (ci := 3) (v := .ref r3) (C := RX3) (T := TX3) (N := 10) hx hb hts lk1 hown hK hP 0 rfl rfl 3 (by decide) lk0 (fun _ h9 => h9) rfl dX3_mark_15 ?_
    refine lv_iload_n hx hb dX3_mark_18 rfl (lv_at hl 2 rfl) ?_
    refine lv_iload_n hx hb dX3_mark_19 rfl (lv_at hl 3 rfl) ?_
    refine lv_lconst (v := 0) hx hb dX3_mark_20 (by decide) ?_
    have hFc := va_free (wc := [(r3, .inr (2, [.ref a0, .ref b0, .ref v0, .int (nI n)])), (a0, .inl (cI, cap, .inl fa)), (b0, .inl (cI, cap, .inl fb)), (v0, .inl (cJ, cap, .inr (.inl fv)))]) hD hS hA [1, 2, 3, 4] rfl
    refine va_callv (va_runV (As := [.int a, .int b, .long 0]) (rest := []) ⟨hx, hb, hml, hown, hts⟩ (c_X2_add l D cI cJ r3 a0 b0 v0 cap n fa fb fv a b 0  (by omega) (by omega) (by omega) 3 6600 (fun _ => ⟨by omega, by omega⟩) s.heap.size) (cwV 3 hts gX3_mark_X2_add rfl rfl rfl (by decide +kernel) ⟨Nat.le_of_ble_eq_true rfl, Nat.le_of_ble_eq_true rfl⟩) (z_preVw hK hP hD [1, 2, 3, 4] (by decide) rfl rfl 2 1 rfl rfl) rfl rfl hl.1 rfl (lv_room (Nat.le_of_ble_eq_true rfl)) dX3_mark_21 ⟨by show _ ≤ 3; omega, by show _ ≤ 6600; omega⟩) hS (fun q _ h => hFc q h) hFc (fun u_6 t H1 locs ht hvm hr_5 hB hzz1 hkk1 hS => ?_)
    obtain ⟨a7, b7, v7, cap7, fa7, fb7, fv7⟩ := u_6
    obtain ⟨hP1, hK1, hD1⟩ := hB
    rw [ht] at hP1
    try dsimp only at hr_5
    obtain ⟨hP, hD⟩ := va_join (wr := [(y, .inr (3, [.ref r0, .ref r1, .ref r2, .ref r3, .ref r4, .ref r5, .ref wd, .ref tp, .int (nI wm), .int (nI tm)]))]) (w1 := [(r3, .inr (2, [.ref a7, .ref b7, .ref v7, .int (nI (n + 1))])), (a7, .inl (cI, cap7, .inl fa7)), (b7, .inl (cI, cap7, .inl fb7)), (v7, .inl (cJ, cap7, .inr (.inl fv7)))]) hP hD [1, 2, 3, 4] [0] rfl rfl (by decide) (by decide) hkk1 hFc hP1 hD1
    generalize H1 = H at hP hS ⊢
    have hP : va_P D vwCl [(y, .inr (3, [.ref r0, .ref r1, .ref r2, .ref r3, .ref r4, .ref r5, .ref wd, .ref tp, .int (nI wm), .int (nI tm)])), (r3, .inr (2, [.ref a7, .ref b7, .ref v7, .int (nI (n + 1))])), (a7, .inl (cI, cap7, .inl fa7)), (b7, .inl (cI, cap7, .inl fb7)), (v7, .inl (cJ, cap7, .inr (.inl fv7)))] H := hP.sub [0, 1, 2, 3, 4] rfl
    have hD : va_D A [(y, .inr (3, [.ref r0, .ref r1, .ref r2, .ref r3, .ref r4, .ref r5, .ref wd, .ref tp, .int (nI wm), .int (nI tm)])), (r3, .inr (2, [.ref a7, .ref b7, .ref v7, .int (nI (n + 1))])), (a7, .inl (cI, cap7, .inl fa7)), (b7, .inl (cI, cap7, .inl fb7)), (v7, .inl (cJ, cap7, .inr (.inl fv7)))] := hD.sub [0, 1, 2, 3, 4] (by decide) rfl
    obtain ⟨had, hca, hcb, hcc, hcd⟩ := hr_5
    refine lv_goto (tgt := 35) hx hb dX3_mark_24 (by decide) ?_
    refine lv_aload_n hx hb dX3_mark_35 rfl (lv_at hl 1 rfl) ?_
    refine va_get (D := D) (ci := 3) (v := .ref r3) (C := RX3) (T := TX3) (N := 10) hx hb hts lk1 hown hK hP 0 rfl rfl 3 (by decide) lk0 (fun _ h9 => h9) rfl dX3_mark_36 ?_
    refine va_get (D := D) (ci := 2) (v := .int (nI (n + 1))) (C := RX2) (T := TX2) (N := 4) hx hb hts lk3 hown hK hP 1 rfl rfl 3 (by decide) lk2 (fun _ h9 => h9) rfl dX3_mark_39 ?_
    refine W.widen (k := 3) (n := 6600) (by omega) (by omega) ?_
    exact W.iret (v := nI (n + 1)) hx hb hr (fun t ht hW => ⟨⟨nI (n + 1), (a7, b7, v7, cap7, n + 1, fa7, fb7, fv7), rfl, ⟨⟨hca, hcb, by omega⟩, rfl, Or.inr ⟨hnf, had⟩⟩, by rw [ht]; exact (hP.sub [0, 1, 2, 3, 4] rfl), va_K.moved hW.alike hK, (hD.sub [0, 1, 2, 3, 4] (by decide) rfl)⟩, hS.F ht⟩) hS.2.2 dX3_mark_42

set_option maxHeartbeats 4000000 in
set_option maxRecDepth 100000 in
theorem c_X3_around (l : Launch) (D : va_G) (cI cJ : ClassId) (y r0 r1 r2 r3 r4 r5 wd tp wm tm : Nat) (a0 b0 v0 cap n : Nat) (fa fb : Nat → Int32) (fv : Nat → Int64) (hn : n ≤ cap) (hc : cap ≤ 1100) (h16 : 16 ≤ cap) (a b : Int32) : Met l yX3_around wsX3_around { frames := 1, cells := 0, slots := 0, locals := 23 } (va_Pc [.ref y, .int a, .int b] (rP D cI cJ [(y, .inr (3, [.ref r0, .ref r1, .ref r2, .ref r3, .ref r4, .ref r5, .ref wd, .ref tp, .int (nI wm), .int (nI tm)])), (r3, .inr (2, [.ref a0, .ref b0, .ref v0, .int (nI n)])), (a0, .inl (cI, cap, .inl fa)), (b0, .inl (cI, cap, .inl fb)), (v0, .inl (cJ, cap, .inr (.inl fv)))])) (vp_Si (fun r => r = nI (arK (mP (rl n fa fb fv) a b) 9))) 0 0 (fun _ => False) := by
  refine Met.ofW (cc := cX3_around) (maxL := 6) (ret := (some .int)) (by decide) rfl ?_
  intro p e s m args below meth c s₁ B hml hv
  obtain ⟨rfl, hP, hK⟩ := hv
  have hx := B.exec
  have hb := B.bytes
  have hr := B.returns
  have hts := atoms_spec (ws := wsX3_around) B.pre
  have hown : s.vm.findClass RX3 = some m.cls := findClass_of_methodNamed B.named
  have hlocks := B.notSynchronized
  have lk0 := hts (.fieldLink RX3 22 "KeyHallModel" "points" "LKeyHallModel$Rows;") (by decide +kernel)
  have lk1 : ∀ w ∈ wsX30, w ∈ wsX3_around := by decide +kernel
  have hl := lv_entry ([.ref y, .int a, .int b]) (n := 6) (Nat.le_of_ble_eq_true rfl)
  rw [lg_entry_eq]
  generalize (lg_sl ([.ref y, .int a, .int b]) ++ List.replicate (6 - (lg_sl ([.ref y, .int a, .int b])).length) Slot.unset).toArray = ls at hl ⊢
  have hl : lv_has ls 6 [(0, .ref y), (1, .int a), (2, .int b)] := hl
  refine lv_iconst (v := nI 0) hx hb dX3_around_0 (by decide) ?_
  refine lv_istore_n (lv' := [(3, .int (nI 0)), (0, .ref y), (1, .int a), (2, .int b)]) hx hb dX3_around_1 rfl hl (by decide) rfl (fun ls hl => ?_)
  refine lv_iconst (v := (-1)) hx hb dX3_around_2 (by decide) ?_
  refine z_topi (y := off 0) (off_0.symm) ?_
  refine lv_istore (lv' := [(4, .int (off 0)), (3, .int (nI 0)), (0, .ref y), (1, .int a), (2, .int b)]) hx hb dX3_around_3 hl (by decide) rfl (fun ls hl => ?_)
  refine z_loop (σ := Nat) (fun i => 3 - i) (fun i ls => lv_has ls 6 [(0, .ref y), (1, .int a), (2, .int b), (3, .int (nI (arK (mP (rl n fa fb fv) a b) (3 * i)))), (4, .int (off i))] ∧ (i ≤ 3)) ?_ (0) _ ⟨lv_sub hl [2, 3, 4, 1, 0] rfl, by decide⟩
  rintro i ls ⟨hl, hi⟩ ih
  have hl : lv_has ls 6 [(0, .ref y), (1, .int a), (2, .int b), (3, .int (nI (arK (mP (rl n fa fb fv) a b) (3 * i)))), (4, .int (off i))] := hl
  have hle := arK_le (mP (rl n fa fb fv) a b) (3 * i)
  refine lv_iload hx hb dX3_around_5 (lv_at hl 4 rfl) ?_
  refine lv_iconst (v := nI 2) hx hb dX3_around_7 (by decide) ?_
  refine lv_icmp_ge (tgt := 63) hx hb dX3_around_8 (by decide) (fun c_8 => ?_) (fun c_8 => ?_)
  · have hi3 := (off_in2 hi).1 c_8
    refine lv_iload_n hx hb dX3_around_63 rfl (lv_at hl 3 rfl) ?_
    exact W.iret (v := nI (arK (mP (rl n fa fb fv) a b) (3 * i))) hx hb hr (fun t ht hW => ⟨nI (arK (mP (rl n fa fb fv) a b) (3 * i)), rfl, by rw [show 9 = 3 * i by omega], ht⟩) (fun _ h => nomatch h) dX3_around_64
  · have hi3 := (off_in2 hi).2 c_8
    refine lv_iconst (v := (-1)) hx hb dX3_around_11 (by decide) ?_
    refine z_topi (y := off 0) (off_0.symm) ?_
    refine lv_istore (lv' := [(5, .int (off 0)), (0, .ref y), (1, .int a), (2, .int b), (3, .int (nI (arK (mP (rl n fa fb fv) a b) (3 * i)))), (4, .int (off i))]) hx hb dX3_around_12 hl (by decide) rfl (fun ls hl => ?_)
    refine z_loop (σ := Nat) (fun j => 3 - j) (fun j ls => lv_has ls 6 [(0, .ref y), (1, .int a), (2, .int b), (3, .int (nI (arK (mP (rl n fa fb fv) a b) (3 * i + j)))), (4, .int (off i)), (5, .int (off j))] ∧ (j ≤ 3)) ?_ (0) _ ⟨lv_sub hl [1, 2, 3, 4, 5, 0] rfl, by decide⟩
    rintro j ls ⟨hl, hj⟩ ih2
    have hl : lv_has ls 6 [(0, .ref y), (1, .int a), (2, .int b), (3, .int (nI (arK (mP (rl n fa fb fv) a b) (3 * i + j)))), (4, .int (off i)), (5, .int (off j))] := hl
    have hle := arK_le (mP (rl n fa fb fv) a b) (3 * i + j)
    refine lv_iload hx hb dX3_around_14 (lv_at hl 5 rfl) ?_
    refine lv_iconst (v := nI 2) hx hb dX3_around_16 (by decide) ?_
    refine lv_icmp_ge (tgt := 57) hx hb dX3_around_17 (by decide) (fun c_17 => ?_) (fun c_17 => ?_)
    · have hj3 := (off_in2 hj).1 c_17
      rw [show 3 * i + j = 3 * (i + 1) by omega] at hl
      refine lv_iinc (v := off (i + 1)) (lv' := [(4, .int (off (i + 1))), (0, .ref y), (1, .int a), (2, .int b), (3, .int (nI (arK (mP (rl n fa fb fv) a b) (3 * (i + 1))))), (5, .int (off j))]) hx hb dX3_around_57 hl (k := 4) rfl (off_s i) (by decide) rfl (fun ls hl => ?_)
      refine lv_goto (tgt := 5) hx hb dX3_around_60 (by decide) ?_
      exact ih (i + 1) _ ⟨lv_sub hl [1, 2, 3, 4, 0] rfl, by omega⟩ (by first | omega | (dsimp only; omega))
    · have hj3 := (off_in2 hj).2 c_17
      refine lv_iload hx hb dX3_around_20 (lv_at hl 4 rfl) ?_
      refine lv_if_ne (tgt := 30) hx hb dX3_around_22 (by decide) (fun c_22 => ?_) (fun c_22 => ?_)
      · refine lv_aload_n hx hb dX3_around_30 rfl (lv_at hl 0 rfl) ?_
        refine va_get (D := D) (ci := 3) (v := .ref r3) (C := RX3) (T := TX3) (N := 10) hx hb hts lk1 hown hK hP 0 rfl rfl 3 (by decide) lk0 (fun _ h9 => h9) rfl dX3_around_31 ?_
        refine lv_iload_n hx hb dX3_around_34 rfl (lv_at hl 1 rfl) ?_
        refine lv_iload hx hb dX3_around_35 (lv_at hl 4 rfl) ?_
        refine lv_iadd hx hb dX3_around_37 ?_
        refine lv_iload_n hx hb dX3_around_38 rfl (lv_at hl 2 rfl) ?_
        refine lv_iload hx hb dX3_around_39 (lv_at hl 5 rfl) ?_
        refine lv_iadd hx hb dX3_around_41 ?_
        refine vp_callSi (va_Run.run (va_runV (As := [.int (a + (off i)), .int (b + (off j))]) (rest := []) ⟨hx, hb, hml, hown, hts⟩ (c_X2_find l D cI cJ r3 a0 b0 v0 cap n fa fb fv (a + (off i)) (b + (off j)) (by omega) (by omega)) (cwV 2 hts gX3_around_X2_find rfl rfl rfl (by decide +kernel) ⟨Nat.le_of_ble_eq_true rfl, Nat.le_of_ble_eq_true rfl⟩) (z_preV hK hP [1, 2, 3, 4] rfl 2 1 rfl rfl) rfl rfl hl.1 rfl (lv_room (Nat.le_of_ble_eq_true rfl)) dX3_around_42 ⟨Nat.zero_le _, Nat.zero_le _⟩)) (fun r_1 hr_1 => ?_)
        rcases hr_1 with ⟨j_f, e_f, he, hea, heb, rfl⟩ | ⟨hnf, rfl⟩
        · obtain ⟨hj, hja, hjb, hjv⟩ := rl_lt he
          refine z_if_lt (tgt := 51) hx hb dX3_around_45 (by decide) (by omega) ?_
          refine lv_iinc (v := nI (arK (mP (rl n fa fb fv) a b) (3 * i + j) + 1)) (lv' := [(3, .int (nI (arK (mP (rl n fa fb fv) a b) (3 * i + j) + 1))), (0, .ref y), (1, .int a), (2, .int b), (4, .int (off i)), (5, .int (off j))]) hx hb dX3_around_48 hl (k := 3) rfl (nI_add (arK (mP (rl n fa fb fv) a b) (3 * i + j)) 1) (by decide) rfl (fun ls hl => ?_)
          rw [← arK_yes (P := mP (rl n fa fb fv) a b) hj3 (Or.inl (fun q => c_22 ((off_z hi3).mpr q))) (pB_t ⟨e_f, List.mem_of_getElem? he, hea, heb⟩)] at hl
          have hl : lv_has ls 6 [(3, .int (nI (arK (mP (rl n fa fb fv) a b) (3 * i + (j + 1))))), (0, .ref y), (1, .int a), (2, .int b), (4, .int (off i)), (5, .int (off j))] := hl
          refine lv_iinc (v := off (j + 1)) (lv' := [(5, .int (off (j + 1))), (3, .int (nI (arK (mP (rl n fa fb fv) a b) (3 * i + (j + 1))))), (0, .ref y), (1, .int a), (2, .int b), (4, .int (off i))]) hx hb dX3_around_51 hl (k := 5) rfl (off_s j) (by decide) rfl (fun ls hl => ?_)
          refine lv_goto (tgt := 14) hx hb dX3_around_54 (by decide) ?_
          exact ih2 (j + 1) _ ⟨lv_sub hl [2, 3, 4, 1, 5, 0] rfl, by omega⟩ (by first | omega | (dsimp only; omega))
        · refine lv_if_lt (tgt := 51) hx hb dX3_around_45 (by decide) (fun _ => ?_) (fun q => absurd (by decide) q)
          rw [← arK_no (P := mP (rl n fa fb fv) a b) hj3 (pB_f (fun q => q.elim fun e h => hnf e h.1 h.2))] at hl
          have hl : lv_has ls 6 [(0, .ref y), (1, .int a), (2, .int b), (3, .int (nI (arK (mP (rl n fa fb fv) a b) (3 * i + (j + 1))))), (4, .int (off i)), (5, .int (off j))] := hl
          refine lv_iinc (v := off (j + 1)) (lv' := [(5, .int (off (j + 1))), (0, .ref y), (1, .int a), (2, .int b), (3, .int (nI (arK (mP (rl n fa fb fv) a b) (3 * i + (j + 1))))), (4, .int (off i))]) hx hb dX3_around_51 hl (k := 5) rfl (off_s j) (by decide) rfl (fun ls hl => ?_)
          refine lv_goto (tgt := 14) hx hb dX3_around_54 (by decide) ?_
          exact ih2 (j + 1) _ ⟨lv_sub hl [1, 2, 3, 4, 5, 0] rfl, by omega⟩ (by first | omega | (dsimp only; omega))
      · refine lv_iload hx hb dX3_around_25 (lv_at hl 5 rfl) ?_
        refine lv_if_eq (tgt := 51) hx hb dX3_around_27 (by decide) (fun c_27 => ?_) (fun c_27 => ?_)
        · rw [← arK_mid (P := mP (rl n fa fb fv) a b) ((off_z hi3).mp c_22) ((off_z hj3).mp c_27)] at hl
          have hl : lv_has ls 6 [(0, .ref y), (1, .int a), (2, .int b), (3, .int (nI (arK (mP (rl n fa fb fv) a b) (3 * i + (j + 1))))), (4, .int (off i)), (5, .int (off j))] := hl
          refine lv_iinc (v := off (j + 1)) (lv' := [(5, .int (off (j + 1))), (0, .ref y), (1, .int a), (2, .int b), (3, .int (nI (arK (mP (rl n fa fb fv) a b) (3 * i + (j + 1))))), (4, .int (off i))]) hx hb dX3_around_51 hl (k := 5) rfl (off_s j) (by decide) rfl (fun ls hl => ?_)
          refine lv_goto (tgt := 14) hx hb dX3_around_54 (by decide) ?_
          exact ih2 (j + 1) _ ⟨lv_sub hl [1, 2, 3, 4, 5, 0] rfl, by omega⟩ (by first | omega | (dsimp only; omega))
        · refine lv_aload_n hx hb dX3_around_30 rfl (lv_at hl 0 rfl) ?_
          refine va_get (D := D) (ci := 3) (v := .ref r3) (C := RX3) (T := TX3) (N := 10) hx hb hts lk1 hown hK hP 0 rfl rfl 3 (by decide) lk0 (fun _ h9 => h9) rfl dX3_around_31 ?_
          refine lv_iload_n hx hb dX3_around_34 rfl (lv_at hl 1 rfl) ?_
          refine lv_iload hx hb dX3_around_35 (lv_at hl 4 rfl) ?_
          refine lv_iadd hx hb dX3_around_37 ?_
          refine lv_iload_n hx hb dX3_around_38 rfl (lv_at hl 2 rfl) ?_
          refine lv_iload hx hb dX3_around_39 (lv_at hl 5 rfl) ?_
          refine lv_iadd hx hb dX3_around_41 ?_
          refine vp_callSi (va_Run.run (va_runV (As := [.int (a + (off i)), .int (b + (off j))]) (rest := []) ⟨hx, hb, hml, hown, hts⟩ (c_X2_find l D cI cJ r3 a0 b0 v0 cap n fa fb fv (a + (off i)) (b + (off j)) (by omega) (by omega)) (cwV 2 hts gX3_around_X2_find rfl rfl rfl (by decide +kernel) ⟨Nat.le_of_ble_eq_true rfl, Nat.le_of_ble_eq_true rfl⟩) (z_preV hK hP [1, 2, 3, 4] rfl 2 1 rfl rfl) rfl rfl hl.1 rfl (lv_room (Nat.le_of_ble_eq_true rfl)) dX3_around_42 ⟨Nat.zero_le _, Nat.zero_le _⟩)) (fun r_2 hr_2 => ?_)
          rcases hr_2 with ⟨j_f, e_f, he, hea, heb, rfl⟩ | ⟨hnf, rfl⟩
          · obtain ⟨hj, hja, hjb, hjv⟩ := rl_lt he
            refine z_if_lt (tgt := 51) hx hb dX3_around_45 (by decide) (by omega) ?_
            refine lv_iinc (v := nI (arK (mP (rl n fa fb fv) a b) (3 * i + j) + 1)) (lv' := [(3, .int (nI (arK (mP (rl n fa fb fv) a b) (3 * i + j) + 1))), (0, .ref y), (1, .int a), (2, .int b), (4, .int (off i)), (5, .int (off j))]) hx hb dX3_around_48 hl (k := 3) rfl (nI_add (arK (mP (rl n fa fb fv) a b) (3 * i + j)) 1) (by decide) rfl (fun ls hl => ?_)
            rw [← arK_yes (P := mP (rl n fa fb fv) a b) hj3 (Or.inr (fun q => c_27 ((off_z hj3).mpr q))) (pB_t ⟨e_f, List.mem_of_getElem? he, hea, heb⟩)] at hl
            have hl : lv_has ls 6 [(3, .int (nI (arK (mP (rl n fa fb fv) a b) (3 * i + (j + 1))))), (0, .ref y), (1, .int a), (2, .int b), (4, .int (off i)), (5, .int (off j))] := hl
            refine lv_iinc (v := off (j + 1)) (lv' := [(5, .int (off (j + 1))), (3, .int (nI (arK (mP (rl n fa fb fv) a b) (3 * i + (j + 1))))), (0, .ref y), (1, .int a), (2, .int b), (4, .int (off i))]) hx hb dX3_around_51 hl (k := 5) rfl (off_s j) (by decide) rfl (fun ls hl => ?_)
            refine lv_goto (tgt := 14) hx hb dX3_around_54 (by decide) ?_
            exact ih2 (j + 1) _ ⟨lv_sub hl [2, 3, 4, 1, 5, 0] rfl, by omega⟩ (by first | omega | (dsimp only; omega))
          · refine lv_if_lt (tgt := 51) hx hb dX3_around_45 (by decide) (fun _ => ?_) (fun q => absurd (by decide) q)
            rw [← arK_no (P := mP (rl n fa fb fv) a b) hj3 (pB_f (fun q => q.elim fun e h => hnf e h.1 h.2))] at hl
            have hl : lv_has ls 6 [(0, .ref y), (1, .int a), (2, .int b), (3, .int (nI (arK (mP (rl n fa fb fv) a b) (3 * i + (j + 1))))), (4, .int (off i)), (5, .int (off j))] := hl
            refine lv_iinc (v := off (j + 1)) (lv' := [(5, .int (off (j + 1))), (0, .ref y), (1, .int a), (2, .int b), (3, .int (nI (arK (mP (rl n fa fb fv) a b) (3 * i + (j + 1))))), (4, .int (off i))]) hx hb dX3_around_51 hl (k := 5) rfl (off_s j) (by decide) rfl (fun ls hl => ?_)
            refine lv_goto (tgt := 14) hx hb dX3_around_54 (by decide) ?_
            exact ih2 (j + 1) _ ⟨lv_sub hl [1, 2, 3, 4, 5, 0] rfl, by omega⟩ (by first | omega | (dsimp only; omega))

set_option maxHeartbeats 4000000 in
set_option maxRecDepth 100000 in
theorem c_X3_end (l : Launch) (D : va_G) (cI cJ : ClassId) (y r0 r1 r2 r3 r4 r5 wd tp wm tm : Nat) (a0 b0 v0 cap n : Nat) (fa fb : Nat → Int32) (fv : Nat → Int64) (hn : n ≤ cap) (hc : cap ≤ 1100) (h16 : 16 ≤ cap) (r9 : Int32) : Met l yX3_end wsX3_end { frames := 0, cells := 0, slots := 0, locals := 0 } (va_Pc [.ref y, .int r9] (rP D cI cJ [(y, .inr (3, [.ref r0, .ref r1, .ref r2, .ref r3, .ref r4, .ref r5, .ref wd, .ref tp, .int (nI wm), .int (nI tm)])), (r4, .inr (2, [.ref a0, .ref b0, .ref v0, .int (nI n)])), (a0, .inl (cI, cap, .inl fa)), (b0, .inl (cI, cap, .inl fb)), (v0, .inl (cJ, cap, .inr (.inl fv)))])) (vp_Sl (fun r => ∃ o, EdR n fa fb r9 o ∧ r = eV fb o)) 0 0 (fun _ => False) := by
  refine Met.ofW (cc := cX3_end) (maxL := 5) (ret := (some .long)) (by decide) rfl ?_
  intro p e s m args below meth c s₁ B hml hv
  obtain ⟨rfl, hP, hK⟩ := hv
  have hx := B.exec
  have hb := B.bytes
  have hr := B.returns
  have hts := atoms_spec (ws := wsX3_end) B.pre
  have hown : s.vm.findClass RX3 = some m.cls := findClass_of_methodNamed B.named
  have hlocks := B.notSynchronized
  have lk0 := hts (.constantLong RX3 54 (4611686018427387904)) (by decide +kernel)
  have lk1 := hts (.fieldLink RX3 25 "KeyHallModel" "table" "LKeyHallModel$Rows;") (by decide +kernel)
  have lk2 : ∀ w ∈ wsX30, w ∈ wsX3_end := by decide +kernel
  have lk3 := hts (.fieldLink RX3 46 "KeyHallModel$Rows" "many" "I") (by decide +kernel)
  have lk4 : ∀ w ∈ wsX20, w ∈ wsX3_end := by decide +kernel
  have lk5 := hts (.fieldLink RX3 66 "KeyHallModel$Rows" "a" "[I") (by decide +kernel)
  have lk6 := hts (.fieldLink RX3 69 "KeyHallModel$Rows" "b" "[I") (by decide +kernel)
  have hl := lv_entry ([.ref y, .int r9]) (n := 5) (Nat.le_of_ble_eq_true rfl)
  rw [lg_entry_eq]
  generalize (lg_sl ([.ref y, .int r9]) ++ List.replicate (5 - (lg_sl ([.ref y, .int r9])).length) Slot.unset).toArray = ls at hl ⊢
  have hl : lv_has ls 5 [(0, .ref y), (1, .int r9)] := hl
  refine lv_ldc2 hx hb hown lk0 dX3_end_0 ?_
  refine lv_lstore_n (lv' := [(2, .long 4611686018427387904), (0, .ref y), (1, .int r9)]) hx hb dX3_end_3 rfl hl (by decide) rfl (fun ls hl => ?_)
  refine lv_iconst (v := nI 0) hx hb dX3_end_4 (by decide) ?_
  refine lv_istore (lv' := [(4, .int (nI 0)), (2, .long 4611686018427387904), (0, .ref y), (1, .int r9)]) hx hb dX3_end_5 hl (by decide) rfl (fun ls hl => ?_)
  refine z_loop (σ := Nat × Option Nat) (fun (i, o) => n - i) (fun (i, o) ls => lv_has ls 5 [(0, .ref y), (1, .int r9), (2, .long (eV fb o)), (4, .int (nI i))] ∧ (i ≤ n) ∧ (EdR i fa fb r9 o)) ?_ ((0, none)) _ ⟨lv_sub hl [2, 3, 1, 0] rfl, Nat.zero_le _, fun j h => absurd h (Nat.not_lt_zero j)⟩
  rintro ⟨i, o⟩ ls ⟨hl, hi, hed⟩ ih
  have hl : lv_has ls 5 [(0, .ref y), (1, .int r9), (2, .long (eV fb o)), (4, .int (nI i))] := hl
  refine lv_iload hx hb dX3_end_7 (lv_at hl 3 rfl) ?_
  refine lv_aload_n hx hb dX3_end_9 rfl (lv_at hl 0 rfl) ?_
  refine va_get (D := D) (ci := 3) (v := .ref r4) (C := RX3) (T := TX3) (N := 10) hx hb hts lk2 hown hK hP 0 rfl rfl 4 (by decide) lk1 (fun _ h9 => h9) rfl dX3_end_10 ?_
  refine va_get (D := D) (ci := 2) (v := .int (nI n)) (C := RX2) (T := TX2) (N := 4) hx hb hts lk4 hown hK hP 1 rfl rfl 3 (by decide) lk3 (fun _ h9 => h9) rfl dX3_end_13 ?_
  refine z_icmp_ge (tgt := 75) hx hb dX3_end_16 (by decide) (by omega) (by omega) (fun c_16 => ?_) (fun c_16 => ?_)
  · refine lv_lload_n hx hb dX3_end_75 rfl (lv_at hl 2 rfl) ?_
    exact W.lret (v := eV fb o) hx hb hr (fun t ht hW => ⟨eV fb o, rfl, ⟨o, by rw [← Nat.le_antisymm hi c_16]; exact hed, rfl⟩, ht⟩) (fun _ h => nomatch h) dX3_end_76
  · refine lv_aload_n hx hb dX3_end_19 rfl (lv_at hl 0 rfl) ?_
    refine va_get (D := D) (ci := 3) (v := .ref r4) (C := RX3) (T := TX3) (N := 10) hx hb hts lk2 hown hK hP 0 rfl rfl 4 (by decide) lk1 (fun _ h9 => h9) rfl dX3_end_20 ?_
    refine va_get (D := D) (ci := 2) (v := .ref a0) (C := RX2) (T := TX2) (N := 4) hx hb hts lk4 hown hK hP 1 rfl rfl 0 (by decide) lk5 (fun _ h9 => h9) rfl dX3_end_23 ?_
    refine lv_iload hx hb dX3_end_26 (lv_at hl 3 rfl) ?_
    refine z_iald hx hb hK hP 2 rfl (j := i) (by omega) (by omega) dX3_end_28 ?_
    refine lv_iload_n hx hb dX3_end_29 rfl (lv_at hl 1 rfl) ?_
    refine lv_icmp_ne (tgt := 69) hx hb dX3_end_30 (by decide) (fun c_30 => ?_) (fun c_30 => ?_)
    · refine lv_iinc (v := nI (i + 1)) (lv' := [(4, .int (nI (i + 1))), (0, .ref y), (1, .int r9), (2, .long (eV fb o))]) hx hb dX3_end_69 hl (k := 3) rfl (nI_add i 1) (by decide) rfl (fun ls hl => ?_)
      refine lv_goto (tgt := 7) hx hb dX3_end_72 (by decide) ?_
      exact ih ((i + 1, o)) _ ⟨lv_sub hl [1, 2, 3, 0] rfl, by omega, hed.skip c_30⟩ (by first | omega | (dsimp only; omega))
    · rcases o with _ | bst
      · have hl : lv_has ls 5 [(0, .ref y), (1, .int r9), (2, .long 4611686018427387904), (4, .int (nI i))] := hl
        refine lv_lload_n hx hb dX3_end_33 rfl (lv_at hl 2 rfl) ?_
        refine lv_ldc2 hx hb hown lk0 dX3_end_34 ?_
        refine z_lc_eq (tgt := 57) hx hb dX3_end_37 dX3_end_38 (by decide) (fun c_38 => ?_) (fun c_38 => absurd rfl c_38)
        refine lv_aload_n hx hb dX3_end_57 rfl (lv_at hl 0 rfl) ?_
        refine va_get (D := D) (ci := 3) (v := .ref r4) (C := RX3) (T := TX3) (N := 10) hx hb hts lk2 hown hK hP 0 rfl rfl 4 (by decide) lk1 (fun _ h9 => h9) rfl dX3_end_58 ?_
        refine va_get (D := D) (ci := 2) (v := .ref b0) (C := RX2) (T := TX2) (N := 4) hx hb hts lk4 hown hK hP 1 rfl rfl 1 (by decide) lk6 (fun _ h9 => h9) rfl dX3_end_61 ?_
        refine lv_iload hx hb dX3_end_64 (lv_at hl 3 rfl) ?_
        refine z_iald hx hb hK hP 3 rfl (j := i) (by omega) (by omega) dX3_end_66 ?_
        refine lv_i2l (v := (fb i).toInt64) hx hb dX3_end_67 rfl ?_
        refine lv_lstore_n (lv' := [(2, .long ((fb i).toInt64)), (0, .ref y), (1, .int r9), (4, .int (nI i))]) hx hb dX3_end_68 rfl hl (by decide) rfl (fun ls hl => ?_)
        refine lv_iinc (v := nI (i + 1)) (lv' := [(4, .int (nI (i + 1))), (2, .long ((fb i).toInt64)), (0, .ref y), (1, .int r9)]) hx hb dX3_end_69 hl (k := 3) rfl (nI_add i 1) (by decide) rfl (fun ls hl => ?_)
        refine lv_goto (tgt := 7) hx hb dX3_end_72 (by decide) ?_
        exact ih ((i + 1, some i)) _ ⟨lv_sub hl [2, 3, 1, 0] rfl, by omega, hed.first c_30⟩ (by first | omega | (dsimp only; omega))
      · have hl : lv_has ls 5 [(0, .ref y), (1, .int r9), (2, .long ((fb bst).toInt64)), (4, .int (nI i))] := hl
        refine lv_lload_n hx hb dX3_end_33 rfl (lv_at hl 2 rfl) ?_
        refine lv_ldc2 hx hb hown lk0 dX3_end_34 ?_
        refine z_lc_eq (tgt := 57) hx hb dX3_end_37 dX3_end_38 (by decide) (fun c_38 => absurd c_38 (ne_no _)) (fun c_38 => ?_)
        refine lv_aload_n hx hb dX3_end_41 rfl (lv_at hl 0 rfl) ?_
        refine va_get (D := D) (ci := 3) (v := .ref r4) (C := RX3) (T := TX3) (N := 10) hx hb hts lk2 hown hK hP 0 rfl rfl 4 (by decide) lk1 (fun _ h9 => h9) rfl dX3_end_42 ?_
        refine va_get (D := D) (ci := 2) (v := .ref b0) (C := RX2) (T := TX2) (N := 4) hx hb hts lk4 hown hK hP 1 rfl rfl 1 (by decide) lk6 (fun _ h9 => h9) rfl dX3_end_45 ?_
        refine lv_iload hx hb dX3_end_48 (lv_at hl 3 rfl) ?_
        refine z_iald hx hb hK hP 3 rfl (j := i) (by omega) (by omega) dX3_end_50 ?_
        refine lv_i2l (v := (fb i).toInt64) hx hb dX3_end_51 rfl ?_
        refine lv_lload_n hx hb dX3_end_52 rfl (lv_at hl 2 rfl) ?_
        refine z_lc_le (tgt := 69) hx hb dX3_end_53 dX3_end_54 (by decide) (fun c_54 => ?_) (fun c_54 => ?_)
        · refine lv_iinc (v := nI (i + 1)) (lv' := [(4, .int (nI (i + 1))), (0, .ref y), (1, .int r9), (2, .long ((fb bst).toInt64))]) hx hb dX3_end_69 hl (k := 3) rfl (nI_add i 1) (by decide) rfl (fun ls hl => ?_)
          refine lv_goto (tgt := 7) hx hb dX3_end_72 (by decide) ?_
          exact ih ((i + 1, some bst)) _ ⟨lv_sub hl [1, 2, 3, 0] rfl, by omega, hed.stay c_54⟩ (by first | omega | (dsimp only; omega))
        · refine lv_aload_n hx hb dX3_end_57 rfl (lv_at hl 0 rfl) ?_
          refine va_get (D := D) (ci := 3) (v := .ref r4) (C := RX3) (T := TX3) (N := 10) hx hb hts lk2 hown hK hP 0 rfl rfl 4 (by decide) lk1 (fun _ h9 => h9) rfl dX3_end_58 ?_
          refine va_get (D := D) (ci := 2) (v := .ref b0) (C := RX2) (T := TX2) (N := 4) hx hb hts lk4 hown hK hP 1 rfl rfl 1 (by decide) lk6 (fun _ h9 => h9) rfl dX3_end_61 ?_
          refine lv_iload hx hb dX3_end_64 (lv_at hl 3 rfl) ?_
          refine z_iald hx hb hK hP 3 rfl (j := i) (by omega) (by omega) dX3_end_66 ?_
          refine lv_i2l (v := (fb i).toInt64) hx hb dX3_end_67 rfl ?_
          refine lv_lstore_n (lv' := [(2, .long ((fb i).toInt64)), (0, .ref y), (1, .int r9), (4, .int (nI i))]) hx hb dX3_end_68 rfl hl (by decide) rfl (fun ls hl => ?_)
          refine lv_iinc (v := nI (i + 1)) (lv' := [(4, .int (nI (i + 1))), (2, .long ((fb i).toInt64)), (0, .ref y), (1, .int r9)]) hx hb dX3_end_69 hl (k := 3) rfl (nI_add i 1) (by decide) rfl (fun ls hl => ?_)
          refine lv_goto (tgt := 7) hx hb dX3_end_72 (by decide) ?_
          exact ih ((i + 1, some i)) _ ⟨lv_sub hl [2, 3, 1, 0] rfl, by omega, hed.take c_30 c_54⟩ (by first | omega | (dsimp only; omega))

set_option maxHeartbeats 4000000 in
set_option maxRecDepth 100000 in
theorem c_X3_rows (l : Launch) (D : va_G) (cI cJ : ClassId) (y r0 r1 r2 r3 r4 r5 wd tp wm tm : Nat) (a0 b0 v0 cap n : Nat) (fa fb : Nat → Int32) (fv : Nat → Int64) (hn : n ≤ cap) (hc : cap ≤ 1100) (h16 : 16 ≤ cap) : Met l yX3_rows wsX3_rows { frames := 0, cells := 0, slots := 0, locals := 0 } (va_Pc [.ref y] (rP D cI cJ [(y, .inr (3, [.ref r0, .ref r1, .ref r2, .ref r3, .ref r4, .ref r5, .ref wd, .ref tp, .int (nI wm), .int (nI tm)])), (r4, .inr (2, [.ref a0, .ref b0, .ref v0, .int (nI n)])), (a0, .inl (cI, cap, .inl fa)), (b0, .inl (cI, cap, .inl fb)), (v0, .inl (cJ, cap, .inr (.inl fv)))])) (vp_Si (fun r => r = nI (rwF n fa))) 0 0 (fun _ => False) := by
  refine Met.ofW (cc := cX3_rows) (maxL := 5) (ret := (some .int)) (by decide) rfl ?_
  intro p e s m args below meth c s₁ B hml hv
  obtain ⟨rfl, hP, hK⟩ := hv
  have hx := B.exec
  have hb := B.bytes
  have hr := B.returns
  have hts := atoms_spec (ws := wsX3_rows) B.pre
  have hown : s.vm.findClass RX3 = some m.cls := findClass_of_methodNamed B.named
  have hlocks := B.notSynchronized
  have lk0 := hts (.fieldLink RX3 25 "KeyHallModel" "table" "LKeyHallModel$Rows;") (by decide +kernel)
  have lk1 : ∀ w ∈ wsX30, w ∈ wsX3_rows := by decide +kernel
  have lk2 := hts (.fieldLink RX3 46 "KeyHallModel$Rows" "many" "I") (by decide +kernel)
  have lk3 : ∀ w ∈ wsX20, w ∈ wsX3_rows := by decide +kernel
  have lk4 := hts (.fieldLink RX3 66 "KeyHallModel$Rows" "a" "[I") (by decide +kernel)
  have hl := lv_entry ([.ref y]) (n := 5) (Nat.le_of_ble_eq_true rfl)
  rw [lg_entry_eq]
  generalize (lg_sl ([.ref y]) ++ List.replicate (5 - (lg_sl ([.ref y])).length) Slot.unset).toArray = ls at hl ⊢
  have hl : lv_has ls 5 [(0, .ref y)] := hl
  refine lv_iconst (v := nI 0) hx hb dX3_rows_0 (by decide) ?_
  refine lv_istore_n (lv' := [(1, .int (nI 0)), (0, .ref y)]) hx hb dX3_rows_1 rfl hl (by decide) rfl (fun ls hl => ?_)
  refine lv_iconst (v := nI 0) hx hb dX3_rows_2 (by decide) ?_
  refine lv_istore_n (lv' := [(2, .int (nI 0)), (1, .int (nI 0)), (0, .ref y)]) hx hb dX3_rows_3 rfl hl (by decide) rfl (fun ls hl => ?_)
  refine z_loop (σ := Nat) (fun k => n - k) (fun k ls => lv_has ls 5 [(0, .ref y), (1, .int (nI (cntF (fun k => pB (∀ i, i < k → fa i ≠ fa k)) k))), (2, .int (nI k))] ∧ (k ≤ n)) ?_ (0) _ ⟨lv_sub hl [2, 1, 0] rfl, Nat.zero_le _⟩
  rintro k ls ⟨hl, hk⟩ ih
  have hl : lv_has ls 5 [(0, .ref y), (1, .int (nI (cntF (fun k => pB (∀ i, i < k → fa i ≠ fa k)) k))), (2, .int (nI k))] := hl
  have hcl := cntF_le (fun k => pB (∀ i, i < k → fa i ≠ fa k)) k
  refine lv_iload_n hx hb dX3_rows_4 rfl (lv_at hl 2 rfl) ?_
  refine lv_aload_n hx hb dX3_rows_5 rfl (lv_at hl 0 rfl) ?_
  refine va_get (D := D) (ci := 3) (v := .ref r4) (C := RX3) (T := TX3) (N := 10) hx hb hts lk1 hown hK hP 0 rfl rfl 4 (by decide) lk0 (fun _ h9 => h9) rfl dX3_rows_6 ?_
  refine va_get (D := D) (ci := 2) (v := .int (nI n)) (C := RX2) (T := TX2) (N := 4) hx hb hts lk3 hown hK hP 1 rfl rfl 3 (by decide) lk2 (fun _ h9 => h9) rfl dX3_rows_9 ?_
  refine z_icmp_ge (tgt := 69) hx hb dX3_rows_12 (by decide) (by omega) (by omega) (fun c_12 => ?_) (fun c_12 => ?_)
  · refine lv_iload_n hx hb dX3_rows_69 rfl (lv_at hl 1 rfl) ?_
    exact W.iret (v := nI (cntF (fun k => pB (∀ i, i < k → fa i ≠ fa k)) k)) hx hb hr (fun t ht hW => ⟨nI (cntF (fun k => pB (∀ i, i < k → fa i ≠ fa k)) k), rfl, by rw [Nat.le_antisymm hk c_12]; rfl, ht⟩) (fun _ h => nomatch h) dX3_rows_70
  · refine lv_iconst (v := nI 1) hx hb dX3_rows_15 (by decide) ?_
    refine lv_istore_n (lv' := [(3, .int (nI 1)), (0, .ref y), (1, .int (nI (cntF (fun k => pB (∀ i, i < k → fa i ≠ fa k)) k))), (2, .int (nI k))]) hx hb dX3_rows_16 rfl hl (by decide) rfl (fun ls hl => ?_)
    refine lv_iconst (v := nI 0) hx hb dX3_rows_17 (by decide) ?_
    refine lv_istore (lv' := [(4, .int (nI 0)), (3, .int (nI 1)), (0, .ref y), (1, .int (nI (cntF (fun k => pB (∀ i, i < k → fa i ≠ fa k)) k))), (2, .int (nI k))]) hx hb dX3_rows_18 hl (by decide) rfl (fun ls hl => ?_)
    refine z_loop (σ := Nat × Nat) (fun (i, f) => k - i) (fun (i, f) ls => lv_has ls 5 [(0, .ref y), (1, .int (nI (cntF (fun k => pB (∀ i, i < k → fa i ≠ fa k)) k))), (2, .int (nI k)), (3, .int (nI f)), (4, .int (nI i))] ∧ (i ≤ k) ∧ (f ≤ 1) ∧ ((f = 1 ∧ ∀ j, j < i → fa j ≠ fa k) ∨ (f = 0 ∧ ∃ j, j < i ∧ fa j = fa k))) ?_ ((0, 1)) _ ⟨lv_sub hl [2, 3, 4, 1, 0] rfl, Nat.zero_le _, by decide, Or.inl ⟨rfl, fun j h => absurd h (Nat.not_lt_zero j)⟩⟩
    rintro ⟨i, f⟩ ls ⟨hl, hi, hf1, hfl⟩ ih2
    have hl : lv_has ls 5 [(0, .ref y), (1, .int (nI (cntF (fun k => pB (∀ i, i < k → fa i ≠ fa k)) k))), (2, .int (nI k)), (3, .int (nI f)), (4, .int (nI i))] := hl
    refine lv_iload hx hb dX3_rows_20 (lv_at hl 4 rfl) ?_
    refine lv_iload_n hx hb dX3_rows_22 rfl (lv_at hl 2 rfl) ?_
    refine z_icmp_ge (tgt := 56) hx hb dX3_rows_23 (by decide) (by omega) (by omega) (fun c_23 => ?_) (fun c_23 => ?_)
    · refine lv_iload_n hx hb dX3_rows_56 rfl (lv_at hl 3 rfl) ?_
      refine z_if_eq (tgt := 63) hx hb dX3_rows_57 (by decide) (by omega) (fun c_57 => ?_) (fun c_57 => ?_)
      · have hij : i = k := Nat.le_antisymm hi c_23
        rw [hij] at hfl
        rw [← cntF_f (P := fun k => pB (∀ i, i < k → fa i ≠ fa k)) (pB_f (fun q => hfl.elim (fun z => absurd z.1 (by omega)) (fun z => z.2.elim fun j h => q j h.1 h.2)))] at hl
        have hl : lv_has ls 5 [(0, .ref y), (1, .int (nI (cntF (fun k => pB (∀ i, i < k → fa i ≠ fa k)) (k + 1)))), (2, .int (nI k)), (3, .int (nI f)), (4, .int (nI i))] := hl
        refine lv_iinc (v := nI (k + 1)) (lv' := [(2, .int (nI (k + 1))), (0, .ref y), (1, .int (nI (cntF (fun k => pB (∀ i, i < k → fa i ≠ fa k)) (k + 1)))), (3, .int (nI f)), (4, .int (nI i))]) hx hb dX3_rows_63 hl (k := 2) rfl (nI_add k 1) (by decide) rfl (fun ls hl => ?_)
        refine lv_goto (tgt := 4) hx hb dX3_rows_66 (by decide) ?_
        exact ih (k + 1) _ ⟨lv_sub hl [1, 2, 0] rfl, by omega⟩ (by first | omega | (dsimp only; omega))
      · refine lv_iinc (v := nI (cntF (fun k => pB (∀ i, i < k → fa i ≠ fa k)) k + 1)) (lv' := [(1, .int (nI (cntF (fun k => pB (∀ i, i < k → fa i ≠ fa k)) k + 1))), (0, .ref y), (2, .int (nI k)), (3, .int (nI f)), (4, .int (nI i))]) hx hb dX3_rows_60 hl (k := 1) rfl (nI_add (cntF (fun k => pB (∀ i, i < k → fa i ≠ fa k)) k) 1) (by decide) rfl (fun ls hl => ?_)
        have hij : i = k := Nat.le_antisymm hi c_23
        rw [hij] at hfl
        rw [← cntF_t (P := fun k => pB (∀ i, i < k → fa i ≠ fa k)) (pB_t (hfl.elim (fun z => z.2) (fun z => absurd z.1 (by omega))))] at hl
        have hl : lv_has ls 5 [(1, .int (nI (cntF (fun k => pB (∀ i, i < k → fa i ≠ fa k)) (k + 1)))), (0, .ref y), (2, .int (nI k)), (3, .int (nI f)), (4, .int (nI i))] := hl
        refine lv_iinc (v := nI (k + 1)) (lv' := [(2, .int (nI (k + 1))), (1, .int (nI (cntF (fun k => pB (∀ i, i < k → fa i ≠ fa k)) (k + 1)))), (0, .ref y), (3, .int (nI f)), (4, .int (nI i))]) hx hb dX3_rows_63 hl (k := 2) rfl (nI_add k 1) (by decide) rfl (fun ls hl => ?_)
        refine lv_goto (tgt := 4) hx hb dX3_rows_66 (by decide) ?_
        exact ih (k + 1) _ ⟨lv_sub hl [2, 1, 0] rfl, by omega⟩ (by first | omega | (dsimp only; omega))
    · refine lv_aload_n hx hb dX3_rows_26 rfl (lv_at hl 0 rfl) ?_
      refine va_get (D := D) (ci := 3) (v := .ref r4) (C := RX3) (T := TX3) (N := 10) hx hb hts lk1 hown hK hP 0 rfl rfl 4 (by decide) lk0 (fun _ h9 => h9) rfl dX3_rows_27 ?_
      refine va_get (D := D) (ci := 2) (v := .ref a0) (C := RX2) (T := TX2) (N := 4) hx hb hts lk3 hown hK hP 1 rfl rfl 0 (by decide) lk4 (fun _ h9 => h9) rfl dX3_rows_30 ?_
      refine lv_iload hx hb dX3_rows_33 (lv_at hl 4 rfl) ?_
      refine z_iald hx hb hK hP 2 rfl (j := i) (by omega) (by omega) dX3_rows_35 ?_
      refine lv_aload_n hx hb dX3_rows_36 rfl (lv_at hl 0 rfl) ?_
      refine va_get (D := D) (ci := 3) (v := .ref r4) (C := RX3) (T := TX3) (N := 10) hx hb hts lk1 hown hK hP 0 rfl rfl 4 (by decide) lk0 (fun _ h9 => h9) rfl dX3_rows_37 ?_
      refine va_get (D := D) (ci := 2) (v := .ref a0) (C := RX2) (T := TX2) (N := 4) hx hb hts lk3 hown hK hP 1 rfl rfl 0 (by decide) lk4 (fun _ h9 => h9) rfl dX3_rows_40 ?_
      refine lv_iload_n hx hb dX3_rows_43 rfl (lv_at hl 2 rfl) ?_
      refine z_iald hx hb hK hP 2 rfl (j := k) (by omega) (by omega) dX3_rows_44 ?_
      refine lv_icmp_ne (tgt := 50) hx hb dX3_rows_45 (by decide) (fun c_45 => ?_) (fun c_45 => ?_)
      · refine lv_iinc (v := nI (i + 1)) (lv' := [(4, .int (nI (i + 1))), (0, .ref y), (1, .int (nI (cntF (fun k => pB (∀ i, i < k → fa i ≠ fa k)) k))), (2, .int (nI k)), (3, .int (nI f))]) hx hb dX3_rows_50 hl (k := 4) rfl (nI_add i 1) (by decide) rfl (fun ls hl => ?_)
        refine lv_goto (tgt := 20) hx hb dX3_rows_53 (by decide) ?_
        exact ih2 ((i + 1, f)) _ ⟨lv_sub hl [1, 2, 3, 4, 0] rfl, by omega, by omega, hfl.elim (fun z => Or.inl ⟨z.1, lt_s1 z.2 c_45⟩) (fun z => Or.inr ⟨z.1, z.2.elim fun j h => ⟨j, by omega, h.2⟩⟩)⟩ (by first | omega | (dsimp only; omega))
      · refine lv_iconst (v := nI 0) hx hb dX3_rows_48 (by decide) ?_
        refine lv_istore_n (lv' := [(3, .int (nI 0)), (0, .ref y), (1, .int (nI (cntF (fun k => pB (∀ i, i < k → fa i ≠ fa k)) k))), (2, .int (nI k)), (4, .int (nI i))]) hx hb dX3_rows_49 rfl hl (by decide) rfl (fun ls hl => ?_)
        refine lv_iinc (v := nI (i + 1)) (lv' := [(4, .int (nI (i + 1))), (3, .int (nI 0)), (0, .ref y), (1, .int (nI (cntF (fun k => pB (∀ i, i < k → fa i ≠ fa k)) k))), (2, .int (nI k))]) hx hb dX3_rows_50 hl (k := 4) rfl (nI_add i 1) (by decide) rfl (fun ls hl => ?_)
        refine lv_goto (tgt := 20) hx hb dX3_rows_53 (by decide) ?_
        exact ih2 ((i + 1, 0)) _ ⟨lv_sub hl [2, 3, 4, 1, 0] rfl, by omega, by omega, Or.inr ⟨rfl, i, by omega, c_45⟩⟩ (by first | omega | (dsimp only; omega))

set_option maxHeartbeats 4000000 in
set_option maxRecDepth 100000 in
theorem c_X3_cut (l : Launch) (D : va_G) (cI cJ : ClassId) (y r0 r1 r2 r3 r4 r5 wd tp wm tm : Nat) (a0 b0 v0 cap n : Nat) (fa fb : Nat → Int32) (fv : Nat → Int64) (hn : n ≤ cap) (hc : cap ≤ 1100) (h16 : 16 ≤ cap) (a b : Int32) (sz : Nat) : Met l yX3_cut wsX3_cut { frames := 1, cells := 0, slots := 0, locals := 24 } (va_Pc [.ref y, .int a, .int b] (wP D cI cJ [(y, .inr (3, [.ref r0, .ref r1, .ref r2, .ref r3, .ref r4, .ref r5, .ref wd, .ref tp, .int (nI wm), .int (nI tm)])), (r4, .inr (2, [.ref a0, .ref b0, .ref v0, .int (nI n)])), (a0, .inl (cI, cap, .inl fa)), (b0, .inl (cI, cap, .inl fb)), (v0, .inl (cJ, cap, .inr (.inl fv)))] sz)) (va_Qi (fun r (u : Nat × Nat × Nat × Nat × Nat × (Nat → Int32) × (Nat → Int32) × (Nat → Int64)) => match u with | (a', b', v', cap', n', fa', fb', fv') => ROK n' cap' ∧ ((∃ r0, DrL (rl n fa fb fv) a b r0 (rl n' fa' fb' fv')) ∧ r = nI (rwF n' fa'))) (wB D cI cJ (va_A [(y, .inr (3, [.ref r0, .ref r1, .ref r2, .ref r3, .ref r4, .ref r5, .ref wd, .ref tp, .int (nI wm), .int (nI tm)])), (r4, .inr (2, [.ref a0, .ref b0, .ref v0, .int (nI n)])), (a0, .inl (cI, cap, .inl fa)), (b0, .inl (cI, cap, .inl fb)), (v0, .inl (cJ, cap, .inr (.inl fv)))] sz) (fun (a', b', v', cap', n', fa', fb', fv') => [(y, .inr (3, [.ref r0, .ref r1, .ref r2, .ref r3, .ref r4, .ref r5, .ref wd, .ref tp, .int (nI wm), .int (nI tm)])), (r4, .inr (2, [.ref a', .ref b', .ref v', .int (nI n')])), (a', .inl (cI, cap', .inl fa')), (b', .inl (cI, cap', .inl fb')), (v', .inl (cJ, cap', .inr (.inl fv')))])) (va_A [(y, .inr (3, [.ref r0, .ref r1, .ref r2, .ref r3, .ref r4, .ref r5, .ref wd, .ref tp, .int (nI wm), .int (nI tm)])), (r4, .inr (2, [.ref a0, .ref b0, .ref v0, .int (nI n)])), (a0, .inl (cI, cap, .inl fa)), (b0, .inl (cI, cap, .inl fb)), (v0, .inl (cJ, cap, .inr (.inl fv)))] sz)) 0 0 (va_A [(y, .inr (3, [.ref r0, .ref r1, .ref r2, .ref r3, .ref r4, .ref r5, .ref wd, .ref tp, .int (nI wm), .int (nI tm)])), (r4, .inr (2, [.ref a0, .ref b0, .ref v0, .int (nI n)])), (a0, .inl (cI, cap, .inl fa)), (b0, .inl (cI, cap, .inl fb)), (v0, .inl (cJ, cap, .inr (.inl fv)))] sz) := by
  refine Met.ofW (cc := cX3_cut) (maxL := 4) (ret := (some .int)) (by decide) rfl ?_
  intro p e s m args below meth c s₁ B hml hv
  obtain ⟨rfl, hsz, hP, hK, hD0⟩ := hv
  have hx := B.exec
  have hb := B.bytes
  have hr := B.returns
  have hts := atoms_spec (ws := wsX3_cut) B.pre
  have hown : s.vm.findClass RX3 = some m.cls := findClass_of_methodNamed B.named
  have hlocks := B.notSynchronized
  have lk0 := hts (.fieldLink RX3 25 "KeyHallModel" "table" "LKeyHallModel$Rows;") (by decide +kernel)
  have lk1 : ∀ w ∈ wsX30, w ∈ wsX3_cut := by decide +kernel
  subst hsz
  have hD := hD0.self (sz := s.heap.size)
  generalize hAe : va_A [(y, .inr (3, [.ref r0, .ref r1, .ref r2, .ref r3, .ref r4, .ref r5, .ref wd, .ref tp, .int (nI wm), .int (nI tm)])), (r4, .inr (2, [.ref a0, .ref b0, .ref v0, .int (nI n)])), (a0, .inl (cI, cap, .inl fa)), (b0, .inl (cI, cap, .inl fb)), (v0, .inl (cJ, cap, .inr (.inl fv)))] s.heap.size = A at hD ⊢
  have hA : ∀ q : Nat, s.heap.size ≤ q → A q := fun q h => by rw [← hAe]; exact Or.inr h
  have hS : va_S A s.heap s.heap [] := va_S.rf
  have hP : va_P D vwCl [(y, .inr (3, [.ref r0, .ref r1, .ref r2, .ref r3, .ref r4, .ref r5, .ref wd, .ref tp, .int (nI wm), .int (nI tm)])), (r4, .inr (2, [.ref a0, .ref b0, .ref v0, .int (nI n)])), (a0, .inl (cI, cap, .inl fa)), (b0, .inl (cI, cap, .inl fb)), (v0, .inl (cJ, cap, .inr (.inl fv)))] s.heap := hP
  have hl := lv_entry ([.ref y, .int a, .int b]) (n := 4) (Nat.le_of_ble_eq_true rfl)
  rw [lg_entry_eq]
  generalize (lg_sl ([.ref y, .int a, .int b]) ++ List.replicate (4 - (lg_sl ([.ref y, .int a, .int b])).length) Slot.unset).toArray = ls at hl ⊢
  have hl : lv_has ls 4 [(0, .ref y), (1, .int a), (2, .int b)] := hl
  refine lv_aload_n hx hb dX3_cut_0 rfl (lv_at hl 0 rfl) ?_
  refine va_get (D := D) (ci := 3) (v := .ref r4) (C := RX3) (T := TX3) (N := 10) hx hb hts lk1 hown hK hP 0 rfl rfl 4 (by decide) lk0 (fun _ h9 => h9) rfl dX3_cut_1 ?_
  refine lv_iload_n hx hb dX3_cut_4 rfl (lv_at hl 1 rfl) ?_
  refine lv_iload_n hx hb dX3_cut_5 rfl (lv_at hl 2 rfl) ?_
  refine vp_callSi (va_Run.run (va_runV (As := [.int a, .int b]) (rest := []) ⟨hx, hb, hml, hown, hts⟩ (c_X2_find l D cI cJ r4 a0 b0 v0 cap n fa fb fv a b (by omega) (by omega)) (cwV 2 hts gX3_cut_X2_find rfl rfl rfl (by decide +kernel) ⟨Nat.le_of_ble_eq_true rfl, Nat.le_of_ble_eq_true rfl⟩) (z_preV hK hP [1, 2, 3, 4] rfl 2 1 rfl rfl) rfl rfl hl.1 rfl (lv_room (Nat.le_of_ble_eq_true rfl)) dX3_cut_6 ⟨Nat.zero_le _, Nat.zero_le _⟩)) (fun r_1 hr_1 => ?_)
  rcases hr_1 with ⟨j_2, e_f, he, hea, heb, rfl⟩ | ⟨hnf, rfl⟩
  · obtain ⟨hj, hja, hjb, hjv⟩ := rl_lt he
    refine lv_istore_n (lv' := [(3, .int (nI j_2)), (0, .ref y), (1, .int a), (2, .int b)]) hx hb dX3_cut_9 rfl hl (by decide) rfl (fun ls hl => ?_)
    refine lv_iload_n hx hb dX3_cut_10 rfl (lv_at hl 0 rfl) ?_
    refine z_if_lt (tgt := 22) hx hb dX3_cut_11 (by decide) (by omega) ?_
    refine lv_aload_n hx hb dX3_cut_14 rfl (lv_at hl 1 rfl) ?_
    refine va_get (D := D) (ci := 3) (v := .ref r4) (C := RX3) (T := TX3) (N := 10) hx hb hts lk1 hown hK hP 0 rfl rfl 4 (by decide) lk0 (fun _ h9 => h9) rfl dX3_cut_15 ?_
    refine lv_iload_n hx hb dX3_cut_18 rfl (lv_at hl 0 rfl) ?_
    have hFc := va_free (wc := [(r4, .inr (2, [.ref a0, .ref b0, .ref v0, .int (nI n)])), (a0, .inl (cI, cap, .inl fa)), (b0, .inl (cI, cap, .inl fb)), (v0, .inl (cJ, cap, .inr (.inl fv)))]) hD hS hA [1, 2, 3, 4] rfl
    refine va_callv (va_runV (As := [.int (nI j_2)]) (rest := []) ⟨hx, hb, hml, hown, hts⟩ (c_X2_remove l D cI cJ r4 a0 b0 v0 cap n fa fb fv j_2 (by omega) (by omega) (by omega) s.heap.size) (cwV 1 hts gX3_cut_X2_remove rfl rfl rfl (by decide +kernel) ⟨Nat.le_of_ble_eq_true rfl, Nat.le_of_ble_eq_true rfl⟩) (z_preVw hK hP hD [1, 2, 3, 4] (by decide) rfl rfl 2 1 rfl rfl) rfl rfl hl.1 rfl (lv_room (Nat.le_of_ble_eq_true rfl)) dX3_cut_19 ⟨Nat.zero_le _, Nat.zero_le _⟩) hS (fun q _ h => hFc q h) hFc (fun u_4 t H1 locs ht hvm hr_3 hB hzz1 hkk1 hS => ?_)
    obtain ⟨hP1, hK1, hD1⟩ := hB
    rw [ht] at hP1
    try dsimp only at hr_3
    obtain ⟨hP, hD⟩ := va_join (wr := [(y, .inr (3, [.ref r0, .ref r1, .ref r2, .ref r3, .ref r4, .ref r5, .ref wd, .ref tp, .int (nI wm), .int (nI tm)]))]) (w1 := [(r4, .inr (2, [.ref a0, .ref b0, .ref v0, .int (nI (n - 1))])), (a0, .inl (cI, cap, .inl (shf fa j_2 (n - 1)))), (b0, .inl (cI, cap, .inl (shf fb j_2 (n - 1)))), (v0, .inl (cJ, cap, .inr (.inl (shf fv j_2 (n - 1)))))]) hP hD [1, 2, 3, 4] [0] rfl rfl (by decide) (by decide) hkk1 hFc hP1 hD1
    generalize H1 = H at hP hS ⊢
    have hP : va_P D vwCl [(y, .inr (3, [.ref r0, .ref r1, .ref r2, .ref r3, .ref r4, .ref r5, .ref wd, .ref tp, .int (nI wm), .int (nI tm)])), (r4, .inr (2, [.ref a0, .ref b0, .ref v0, .int (nI (n - 1))])), (a0, .inl (cI, cap, .inl (shf fa j_2 (n - 1)))), (b0, .inl (cI, cap, .inl (shf fb j_2 (n - 1)))), (v0, .inl (cJ, cap, .inr (.inl (shf fv j_2 (n - 1)))))] H := hP.sub [0, 1, 2, 3, 4] rfl
    have hD : va_D A [(y, .inr (3, [.ref r0, .ref r1, .ref r2, .ref r3, .ref r4, .ref r5, .ref wd, .ref tp, .int (nI wm), .int (nI tm)])), (r4, .inr (2, [.ref a0, .ref b0, .ref v0, .int (nI (n - 1))])), (a0, .inl (cI, cap, .inl (shf fa j_2 (n - 1)))), (b0, .inl (cI, cap, .inl (shf fb j_2 (n - 1)))), (v0, .inl (cJ, cap, .inr (.inl (shf fv j_2 (n - 1)))))] := hD.sub [0, 1, 2, 3, 4] (by decide) rfl
    refine lv_aload_n hx hb dX3_cut_22 rfl (lv_at hl 1 rfl) ?_
    refine vp_callSi (va_Run.run (va_runV (As := []) (rest := []) ⟨hx, hb, hml, hown, hts⟩ (c_X3_rows l D cI cJ y r0 r1 r2 r3 r4 r5 wd tp wm tm a0 b0 v0 cap (n - 1) (shf fa j_2 (n - 1)) (shf fb j_2 (n - 1)) (shf fv j_2 (n - 1)) (by omega) (by omega) (by omega)) (cwV 0 hts gX3_cut_X3_rows rfl rfl rfl (by decide +kernel) ⟨Nat.le_of_ble_eq_true rfl, Nat.le_of_ble_eq_true rfl⟩) (z_preV hK hP [0, 1, 2, 3, 4] rfl 3 0 rfl rfl) rfl rfl hl.1 rfl (lv_room (Nat.le_of_ble_eq_true rfl)) dX3_cut_23 ⟨Nat.zero_le _, Nat.zero_le _⟩)) (fun r_5 hr_5 => ?_)
    replace hr_5 := hr_5.symm
    subst hr_5
    have hrl : rwF (n - 1) (shf fa j_2 (n - 1)) ≤ n - 1 := cntF_le _ _
    exact W.iret (v := nI (rwF (n - 1) (shf fa j_2 (n - 1)))) hx hb hr (fun t ht hW => ⟨⟨nI (rwF (n - 1) (shf fa j_2 (n - 1))), (a0, b0, v0, cap, n - 1, shf fa j_2 (n - 1), shf fb j_2 (n - 1), shf fv j_2 (n - 1)), rfl, ⟨⟨by omega, h16, hc⟩, ⟨_, Or.inl ⟨j_2, e_f, he, hea, heb, rfl, rl_era hj⟩⟩, rfl⟩, by rw [ht]; exact hP, va_K.moved hW.alike hK, hD⟩, hS.F ht⟩) hS.2.2 dX3_cut_26
  · refine lv_istore_n (lv' := [(3, .int (-1)), (0, .ref y), (1, .int a), (2, .int b)]) hx hb dX3_cut_9 rfl hl (by decide) rfl (fun ls hl => ?_)
    refine lv_iload_n hx hb dX3_cut_10 rfl (lv_at hl 0 rfl) ?_
    refine lv_if_lt (tgt := 22) hx hb dX3_cut_11 (by decide) (fun _ => ?_) (fun q => absurd (by decide) q)
    refine lv_aload_n hx hb dX3_cut_22 rfl (lv_at hl 1 rfl) ?_
    refine vp_callSi (va_Run.run (va_runV (As := []) (rest := []) ⟨hx, hb, hml, hown, hts⟩ (c_X3_rows l D cI cJ y r0 r1 r2 r3 r4 r5 wd tp wm tm a0 b0 v0 cap n fa fb fv (by omega) (by omega) (by omega)) (cwV 0 hts gX3_cut_X3_rows rfl rfl rfl (by decide +kernel) ⟨Nat.le_of_ble_eq_true rfl, Nat.le_of_ble_eq_true rfl⟩) (z_preV hK hP [0, 1, 2, 3, 4] rfl 3 0 rfl rfl) rfl rfl hl.1 rfl (lv_room (Nat.le_of_ble_eq_true rfl)) dX3_cut_23 ⟨Nat.zero_le _, Nat.zero_le _⟩)) (fun r_6 hr_6 => ?_)
    replace hr_6 := hr_6.symm
    subst hr_6
    have hrl : rwF n fa ≤ n := cntF_le _ _
    exact W.iret (v := nI (rwF n fa)) hx hb hr (fun t ht hW => ⟨⟨nI (rwF n fa), (a0, b0, v0, cap, n, fa, fb, fv), rfl, ⟨⟨hn, h16, hc⟩, ⟨_, Or.inr ⟨hnf, rfl, rfl⟩⟩, rfl⟩, by rw [ht]; exact hP, va_K.moved hW.alike hK, hD⟩, hS.F ht⟩) hS.2.2 dX3_cut_26

set_option maxHeartbeats 4000000 in
set_option maxRecDepth 100000 in
theorem c_X3_size (l : Launch) (D : va_G) (cI cJ : ClassId) (y r0 r1 r2 r3 r4 r5 wd tp wm tm : Nat) (a00 b00 v00 cap0 n0 : Nat) (fa0 fb0 : Nat → Int32) (fv0 : Nat → Int64) (hn0 : n0 ≤ cap0) (hc0 : cap0 ≤ 1100) (h160 : 16 ≤ cap0) (a01 b01 v01 cap1 n1 : Nat) (fa1 fb1 : Nat → Int32) (fv1 : Nat → Int64) (hn1 : n1 ≤ cap1) (hc1 : cap1 ≤ 1100) (h161 : 16 ≤ cap1) (a02 b02 v02 cap2 n2 : Nat) (fa2 fb2 : Nat → Int32) (fv2 : Nat → Int64) (hn2 : n2 ≤ cap2) (hc2 : cap2 ≤ 1100) (h162 : 16 ≤ cap2) (a03 b03 v03 cap3 n3 : Nat) (fa3 fb3 : Nat → Int32) (fv3 : Nat → Int64) (hn3 : n3 ≤ cap3) (hc3 : cap3 ≤ 1100) (h163 : 16 ≤ cap3) (a04 b04 v04 cap4 n4 : Nat) (fa4 fb4 : Nat → Int32) (fv4 : Nat → Int64) (hn4 : n4 ≤ cap4) (hc4 : cap4 ≤ 1100) (h164 : 16 ≤ cap4) (a05 b05 v05 cap5 n5 : Nat) (fa5 fb5 : Nat → Int32) (fv5 : Nat → Int64) (hn5 : n5 ≤ cap5) (hc5 : cap5 ≤ 1100) (h165 : 16 ≤ cap5) (hwm : wm ≤ 100000) (wh : Int32) : Met l yX3_size wsX3_size { frames := 1, cells := 0, slots := 0, locals := 24 } (va_Pc [.ref y, .int wh] (rP D cI cJ [(y, .inr (3, [.ref r0, .ref r1, .ref r2, .ref r3, .ref r4, .ref r5, .ref wd, .ref tp, .int (nI wm), .int (nI tm)])), (r0, .inr (2, [.ref a00, .ref b00, .ref v00, .int (nI n0)])), (a00, .inl (cI, cap0, .inl fa0)), (b00, .inl (cI, cap0, .inl fb0)), (v00, .inl (cJ, cap0, .inr (.inl fv0))), (r1, .inr (2, [.ref a01, .ref b01, .ref v01, .int (nI n1)])), (a01, .inl (cI, cap1, .inl fa1)), (b01, .inl (cI, cap1, .inl fb1)), (v01, .inl (cJ, cap1, .inr (.inl fv1))), (r2, .inr (2, [.ref a02, .ref b02, .ref v02, .int (nI n2)])), (a02, .inl (cI, cap2, .inl fa2)), (b02, .inl (cI, cap2, .inl fb2)), (v02, .inl (cJ, cap2, .inr (.inl fv2))), (r3, .inr (2, [.ref a03, .ref b03, .ref v03, .int (nI n3)])), (a03, .inl (cI, cap3, .inl fa3)), (b03, .inl (cI, cap3, .inl fb3)), (v03, .inl (cJ, cap3, .inr (.inl fv3))), (r4, .inr (2, [.ref a04, .ref b04, .ref v04, .int (nI n4)])), (a04, .inl (cI, cap4, .inl fa4)), (b04, .inl (cI, cap4, .inl fb4)), (v04, .inl (cJ, cap4, .inr (.inl fv4))), (r5, .inr (2, [.ref a05, .ref b05, .ref v05, .int (nI n5)])), (a05, .inl (cI, cap5, .inl fa5)), (b05, .inl (cI, cap5, .inl fb5)), (v05, .inl (cJ, cap5, .inr (.inl fv5)))])) (vp_Si (fun r => szR wh r n0 n1 n2 (cntF (fun w => pB (0 < nmF n5 fa5 w)) wm) n3 (rwF n4 fa4) n4)) 0 0 (fun _ => False) := by
  refine Met.ofW (cc := cX3_size) (maxL := 4) (ret := (some .int)) (by decide) rfl ?_
  intro p e s m args below meth c s₁ B hml hv
  obtain ⟨rfl, hP, hK⟩ := hv
  have hx := B.exec
  have hb := B.bytes
  have hr := B.returns
  have hts := atoms_spec (ws := wsX3_size) B.pre
  have hown : s.vm.findClass RX3 = some m.cls := findClass_of_methodNamed B.named
  have hlocks := B.notSynchronized
  have lk0 := hts (.fieldLink RX3 10 "KeyHallModel" "counts" "LKeyHallModel$Rows;") (by decide +kernel)
  have lk1 : ∀ w ∈ wsX30, w ∈ wsX3_size := by decide +kernel
  have lk2 := hts (.fieldLink RX3 46 "KeyHallModel$Rows" "many" "I") (by decide +kernel)
  have lk3 : ∀ w ∈ wsX20, w ∈ wsX3_size := by decide +kernel
  have lk4 := hts (.fieldLink RX3 16 "KeyHallModel" "coming" "LKeyHallModel$Rows;") (by decide +kernel)
  have lk5 := hts (.fieldLink RX3 19 "KeyHallModel" "rising" "LKeyHallModel$Rows;") (by decide +kernel)
  have lk6 := hts (.fieldLink RX3 92 "KeyHallModel" "wordMany" "I") (by decide +kernel)
  have lk7 := hts (.fieldLink RX3 22 "KeyHallModel" "points" "LKeyHallModel$Rows;") (by decide +kernel)
  have lk8 := hts (.fieldLink RX3 25 "KeyHallModel" "table" "LKeyHallModel$Rows;") (by decide +kernel)
  have hl := lv_entry ([.ref y, .int wh]) (n := 4) (Nat.le_of_ble_eq_true rfl)
  rw [lg_entry_eq]
  generalize (lg_sl ([.ref y, .int wh]) ++ List.replicate (4 - (lg_sl ([.ref y, .int wh])).length) Slot.unset).toArray = ls at hl ⊢
  have hl : lv_has ls 4 [(0, .ref y), (1, .int wh)] := hl
  refine lv_iconst (v := nI 0) hx hb dX3_size_0 (by decide) ?_
  refine lv_istore_n (lv' := [(2, .int (nI 0)), (0, .ref y), (1, .int wh)]) hx hb dX3_size_1 rfl hl (by decide) rfl (fun ls hl => ?_)
  refine lv_iload_n hx hb dX3_size_2 rfl (lv_at hl 2 rfl) ?_
  rcases sw7 wh with rfl | rfl | rfl | rfl | rfl | rfl | rfl | hout
  · refine lv_tableIn (tgt := 44) hx hb dX3_size_3 (by decide) (by decide) (off := 41) (by decide) (by decide) ?_
    refine lv_aload_n hx hb dX3_size_44 rfl (lv_at hl 1 rfl) ?_
    refine va_get (D := D) (ci := 3) (v := .ref r0) (C := RX3) (T := TX3) (N := 10) hx hb hts lk1 hown hK hP 0 rfl rfl 0 (by decide) lk0 (fun _ h9 => h9) rfl dX3_size_45 ?_
    refine va_get (D := D) (ci := 2) (v := .int (nI n0)) (C := RX2) (T := TX2) (N := 4) hx hb hts lk3 hown hK hP 1 rfl rfl 3 (by decide) lk2 (fun _ h9 => h9) rfl dX3_size_48 ?_
    exact W.iret (v := nI n0) hx hb hr (fun t ht hW => ⟨nI n0, rfl, Or.inl ⟨rfl, rfl⟩, ht⟩) (fun _ h => nomatch h) dX3_size_51
  · refine lv_tableIn (tgt := 52) hx hb dX3_size_3 (by decide) (by decide) (off := 49) (by decide) (by decide) ?_
    refine lv_aload_n hx hb dX3_size_52 rfl (lv_at hl 1 rfl) ?_
    refine va_get (D := D) (ci := 3) (v := .ref r1) (C := RX3) (T := TX3) (N := 10) hx hb hts lk1 hown hK hP 0 rfl rfl 1 (by decide) lk4 (fun _ h9 => h9) rfl dX3_size_53 ?_
    refine va_get (D := D) (ci := 2) (v := .int (nI n1)) (C := RX2) (T := TX2) (N := 4) hx hb hts lk3 hown hK hP 5 rfl rfl 3 (by decide) lk2 (fun _ h9 => h9) rfl dX3_size_56 ?_
    exact W.iret (v := nI n1) hx hb hr (fun t ht hW => ⟨nI n1, rfl, Or.inr (Or.inl ⟨rfl, rfl⟩), ht⟩) (fun _ h => nomatch h) dX3_size_59
  · refine lv_tableIn (tgt := 60) hx hb dX3_size_3 (by decide) (by decide) (off := 57) (by decide) (by decide) ?_
    refine lv_aload_n hx hb dX3_size_60 rfl (lv_at hl 1 rfl) ?_
    refine va_get (D := D) (ci := 3) (v := .ref r2) (C := RX3) (T := TX3) (N := 10) hx hb hts lk1 hown hK hP 0 rfl rfl 2 (by decide) lk5 (fun _ h9 => h9) rfl dX3_size_61 ?_
    refine va_get (D := D) (ci := 2) (v := .int (nI n2)) (C := RX2) (T := TX2) (N := 4) hx hb hts lk3 hown hK hP 9 rfl rfl 3 (by decide) lk2 (fun _ h9 => h9) rfl dX3_size_64 ?_
    exact W.iret (v := nI n2) hx hb hr (fun t ht hW => ⟨nI n2, rfl, Or.inr (Or.inr (Or.inl ⟨rfl, rfl⟩)), ht⟩) (fun _ h => nomatch h) dX3_size_67
  · refine lv_tableIn (tgt := 68) hx hb dX3_size_3 (by decide) (by decide) (off := 65) (by decide) (by decide) ?_
    refine lv_iconst (v := nI 0) hx hb dX3_size_68 (by decide) ?_
    refine lv_istore_n (lv' := [(3, .int (nI 0)), (2, .int (nI 0)), (0, .ref y), (1, .int (nI 3))]) hx hb dX3_size_69 rfl hl (by decide) rfl (fun ls hl => ?_)
    refine z_loop (σ := Nat) (fun i => wm - i) (fun i ls => lv_has ls 4 [(0, .ref y), (2, .int (nI (cntF (fun w => pB (0 < nmF n5 fa5 w)) i))), (3, .int (nI i))] ∧ (i ≤ wm)) ?_ (0) _ ⟨lv_sub hl [2, 1, 0] rfl, Nat.zero_le _⟩
    rintro i ls ⟨hl, hi⟩ ih
    have hl : lv_has ls 4 [(0, .ref y), (2, .int (nI (cntF (fun w => pB (0 < nmF n5 fa5 w)) i))), (3, .int (nI i))] := hl
    have hcl := cntF_le (fun w => pB (0 < nmF n5 fa5 w)) i
    refine lv_iload_n hx hb dX3_size_70 rfl (lv_at hl 2 rfl) ?_
    refine lv_aload_n hx hb dX3_size_71 rfl (lv_at hl 0 rfl) ?_
    refine va_get (D := D) (ci := 3) (v := .int (nI wm)) (C := RX3) (T := TX3) (N := 10) hx hb hts lk1 hown hK hP 0 rfl rfl 8 (by decide) lk6 (fun _ h9 => h9) rfl dX3_size_72 ?_
    refine z_icmp_ge (tgt := 95) hx hb dX3_size_75 (by decide) (by omega) (by omega) (fun c_75 => ?_) (fun c_75 => ?_)
    · refine lv_iload_n hx hb dX3_size_95 rfl (lv_at hl 1 rfl) ?_
      exact W.iret (v := nI (cntF (fun w => pB (0 < nmF n5 fa5 w)) i)) hx hb hr (fun t ht hW => ⟨nI (cntF (fun w => pB (0 < nmF n5 fa5 w)) i), rfl, Or.inr (Or.inr (Or.inr (Or.inl ⟨rfl, by rw [Nat.le_antisymm hi c_75]⟩))), ht⟩) (fun _ h => nomatch h) dX3_size_96
    · refine lv_aload_n hx hb dX3_size_78 rfl (lv_at hl 0 rfl) ?_
      refine lv_iload_n hx hb dX3_size_79 rfl (lv_at hl 2 rfl) ?_
      refine vp_callSi (va_Run.run (va_runV (As := [.int (nI i)]) (rest := []) ⟨hx, hb, hml, hown, hts⟩ (c_X3_numbers l D cI cJ y r0 r1 r2 r3 r4 r5 wd tp wm tm a05 b05 v05 cap5 n5 fa5 fb5 fv5  (by omega) (by omega) (by omega) i (by omega)) (cwV 1 hts gX3_size_X3_numbers rfl rfl rfl (by decide +kernel) ⟨Nat.le_of_ble_eq_true rfl, Nat.le_of_ble_eq_true rfl⟩) (z_preV hK hP [0, 21, 22, 23, 24] rfl 3 0 rfl rfl) rfl rfl hl.1 rfl (lv_room (Nat.le_of_ble_eq_true rfl)) dX3_size_80 ⟨Nat.zero_le _, Nat.zero_le _⟩)) (fun r_1 hr_1 => ?_)
      replace hr_1 := hr_1.symm
      subst hr_1
      have hnl : nmF n5 fa5 i ≤ n5 := cntF_le _ _
      refine z_if_le (tgt := 89) hx hb dX3_size_83 (by decide) (by omega) (fun c_83 => ?_) (fun c_83 => ?_)
      · rw [← cntF_f (P := fun w => pB (0 < nmF n5 fa5 w)) (pB_f (by omega))] at hl
        have hl : lv_has ls 4 [(0, .ref y), (2, .int (nI (cntF (fun w => pB (0 < nmF n5 fa5 w)) (i + 1)))), (3, .int (nI i))] := hl
        refine lv_iinc (v := nI (i + 1)) (lv' := [(3, .int (nI (i + 1))), (0, .ref y), (2, .int (nI (cntF (fun w => pB (0 < nmF n5 fa5 w)) (i + 1))))]) hx hb dX3_size_89 hl (k := 2) rfl (nI_add i 1) (by decide) rfl (fun ls hl => ?_)
        refine lv_goto (tgt := 70) hx hb dX3_size_92 (by decide) ?_
        exact ih (i + 1) _ ⟨lv_sub hl [1, 2, 0] rfl, by omega⟩ (by first | omega | (dsimp only; omega))
      · refine lv_iinc (v := nI (cntF (fun w => pB (0 < nmF n5 fa5 w)) i + 1)) (lv' := [(2, .int (nI (cntF (fun w => pB (0 < nmF n5 fa5 w)) i + 1))), (0, .ref y), (3, .int (nI i))]) hx hb dX3_size_86 hl (k := 1) rfl (nI_add (cntF (fun w => pB (0 < nmF n5 fa5 w)) i) 1) (by decide) rfl (fun ls hl => ?_)
        rw [← cntF_t (P := fun w => pB (0 < nmF n5 fa5 w)) (pB_t c_83)] at hl
        have hl : lv_has ls 4 [(2, .int (nI (cntF (fun w => pB (0 < nmF n5 fa5 w)) (i + 1)))), (0, .ref y), (3, .int (nI i))] := hl
        refine lv_iinc (v := nI (i + 1)) (lv' := [(3, .int (nI (i + 1))), (2, .int (nI (cntF (fun w => pB (0 < nmF n5 fa5 w)) (i + 1)))), (0, .ref y)]) hx hb dX3_size_89 hl (k := 2) rfl (nI_add i 1) (by decide) rfl (fun ls hl => ?_)
        refine lv_goto (tgt := 70) hx hb dX3_size_92 (by decide) ?_
        exact ih (i + 1) _ ⟨lv_sub hl [2, 1, 0] rfl, by omega⟩ (by first | omega | (dsimp only; omega))
  · refine lv_tableIn (tgt := 97) hx hb dX3_size_3 (by decide) (by decide) (off := 94) (by decide) (by decide) ?_
    refine lv_aload_n hx hb dX3_size_97 rfl (lv_at hl 1 rfl) ?_
    refine va_get (D := D) (ci := 3) (v := .ref r3) (C := RX3) (T := TX3) (N := 10) hx hb hts lk1 hown hK hP 0 rfl rfl 3 (by decide) lk7 (fun _ h9 => h9) rfl dX3_size_98 ?_
    refine va_get (D := D) (ci := 2) (v := .int (nI n3)) (C := RX2) (T := TX2) (N := 4) hx hb hts lk3 hown hK hP 13 rfl rfl 3 (by decide) lk2 (fun _ h9 => h9) rfl dX3_size_101 ?_
    exact W.iret (v := nI n3) hx hb hr (fun t ht hW => ⟨nI n3, rfl, Or.inr (Or.inr (Or.inr (Or.inr (Or.inl ⟨rfl, rfl⟩)))), ht⟩) (fun _ h => nomatch h) dX3_size_104
  · refine lv_tableIn (tgt := 105) hx hb dX3_size_3 (by decide) (by decide) (off := 102) (by decide) (by decide) ?_
    refine lv_aload_n hx hb dX3_size_105 rfl (lv_at hl 1 rfl) ?_
    refine vp_callSi (va_Run.run (va_runV (As := []) (rest := []) ⟨hx, hb, hml, hown, hts⟩ (c_X3_rows l D cI cJ y r0 r1 r2 r3 r4 r5 wd tp wm tm a04 b04 v04 cap4 n4 fa4 fb4 fv4 (by omega) (by omega) (by omega)) (cwV 0 hts gX3_size_X3_rows rfl rfl rfl (by decide +kernel) ⟨Nat.le_of_ble_eq_true rfl, Nat.le_of_ble_eq_true rfl⟩) (z_preV hK hP [0, 17, 18, 19, 20] rfl 3 0 rfl rfl) rfl rfl hl.1 rfl (lv_room (Nat.le_of_ble_eq_true rfl)) dX3_size_106 ⟨Nat.zero_le _, Nat.zero_le _⟩)) (fun r_2 hr_2 => ?_)
    replace hr_2 := hr_2.symm
    subst hr_2
    have hrl : rwF n4 fa4 ≤ n4 := cntF_le _ _
    exact W.iret (v := nI (rwF n4 fa4)) hx hb hr (fun t ht hW => ⟨nI (rwF n4 fa4), rfl, Or.inr (Or.inr (Or.inr (Or.inr (Or.inr (Or.inl ⟨rfl, rfl⟩))))), ht⟩) (fun _ h => nomatch h) dX3_size_109
  · refine lv_tableIn (tgt := 110) hx hb dX3_size_3 (by decide) (by decide) (off := 107) (by decide) (by decide) ?_
    refine lv_aload_n hx hb dX3_size_110 rfl (lv_at hl 1 rfl) ?_
    refine va_get (D := D) (ci := 3) (v := .ref r4) (C := RX3) (T := TX3) (N := 10) hx hb hts lk1 hown hK hP 0 rfl rfl 4 (by decide) lk8 (fun _ h9 => h9) rfl dX3_size_111 ?_
    refine va_get (D := D) (ci := 2) (v := .int (nI n4)) (C := RX2) (T := TX2) (N := 4) hx hb hts lk3 hown hK hP 17 rfl rfl 3 (by decide) lk2 (fun _ h9 => h9) rfl dX3_size_114 ?_
    exact W.iret (v := nI n4) hx hb hr (fun t ht hW => ⟨nI n4, rfl, Or.inr (Or.inr (Or.inr (Or.inr (Or.inr (Or.inr (Or.inl ⟨rfl, rfl⟩)))))), ht⟩) (fun _ h => nomatch h) dX3_size_117
  · refine lv_tableOut (tgt := 118) hx hb dX3_size_3 hout (by decide) ?_
    refine lv_iconst (v := (-1)) hx hb dX3_size_118 (by decide) ?_
    exact W.iret (v := (-1)) hx hb hr (fun t ht hW => ⟨(-1), rfl, Or.inr (Or.inr (Or.inr (Or.inr (Or.inr (Or.inr (Or.inr ⟨hout, rfl⟩)))))), ht⟩) (fun _ h => nomatch h) dX3_size_119

set_option maxHeartbeats 4000000 in
set_option maxRecDepth 100000 in
theorem c_X3_init (l : Launch) (D : va_G) (cI cJ : ClassId) (y : Nat) (srt : Int32) (sz : Nat) : Met l yX3_init wsX3_init { frames := 2, cells := 26, slots := 516, locals := 42 } (va_Pc [.ref y, .int srt] (nP D cI cJ [(y, .inr (3, [.null, .null, .null, .null, .null, .null, .null, .null, .int (nI 0), .int (nI 0)]))] sz)) (va_Qv (fun (u : Nat × Nat × Nat × Nat × Nat × Nat × Nat × Nat × Nat × Nat × Nat × Nat × Nat × Nat × Nat × Nat × Nat × Nat × Nat × Nat × Nat × Nat × Nat × Nat × Nat × Nat) => True) (wB D cI cJ (va_A [(y, .inr (3, [.null, .null, .null, .null, .null, .null, .null, .null, .int (nI 0), .int (nI 0)]))] sz) (fun (r0, a00, b00, v00, r1, a01, b01, v01, r2, a02, b02, v02, r3, a03, b03, v03, r4, a04, b04, v04, r5, a05, b05, v05, wd, tp) => [(y, .inr (3, [.ref r0, .ref r1, .ref r2, .ref r3, .ref r4, .ref r5, .ref wd, .ref tp, .int (nI 0), .int (nI 0)])), (wd, .inl (cI, 192, .inl (fun _ => 0))), (tp, .inl (cI, 12, .inl (fun _ => 0))), (r0, .inr (2, [.ref a00, .ref b00, .ref v00, .int (nI 0)])), (a00, .inl (cI, 16, .inl (fun _ => 0))), (b00, .inl (cI, 16, .inl (fun _ => 0))), (v00, .inl (cJ, 16, .inr (.inl (fun _ => 0)))), (r1, .inr (2, [.ref a01, .ref b01, .ref v01, .int (nI 0)])), (a01, .inl (cI, 16, .inl (fun _ => 0))), (b01, .inl (cI, 16, .inl (fun _ => 0))), (v01, .inl (cJ, 16, .inr (.inl (fun _ => 0)))), (r2, .inr (2, [.ref a02, .ref b02, .ref v02, .int (nI 0)])), (a02, .inl (cI, 16, .inl (fun _ => 0))), (b02, .inl (cI, 16, .inl (fun _ => 0))), (v02, .inl (cJ, 16, .inr (.inl (fun _ => 0)))), (r3, .inr (2, [.ref a03, .ref b03, .ref v03, .int (nI 0)])), (a03, .inl (cI, 16, .inl (fun _ => 0))), (b03, .inl (cI, 16, .inl (fun _ => 0))), (v03, .inl (cJ, 16, .inr (.inl (fun _ => 0)))), (r4, .inr (2, [.ref a04, .ref b04, .ref v04, .int (nI 0)])), (a04, .inl (cI, 16, .inl (fun _ => 0))), (b04, .inl (cI, 16, .inl (fun _ => 0))), (v04, .inl (cJ, 16, .inr (.inl (fun _ => 0)))), (r5, .inr (2, [.ref a05, .ref b05, .ref v05, .int (nI 0)])), (a05, .inl (cI, 16, .inl (fun _ => 0))), (b05, .inl (cI, 16, .inl (fun _ => 0))), (v05, .inl (cJ, 16, .inr (.inl (fun _ => 0))))])) (va_A [(y, .inr (3, [.null, .null, .null, .null, .null, .null, .null, .null, .int (nI 0), .int (nI 0)]))] sz)) 26 516 (va_A [(y, .inr (3, [.null, .null, .null, .null, .null, .null, .null, .null, .int (nI 0), .int (nI 0)]))] sz) := by
  refine Met.ofW (cc := cX3_init) (maxL := 2) (ret := none) (by decide) rfl ?_
  intro p e s m args below meth c s₁ B hml hv
  obtain ⟨rfl, ⟨hsz, hP, hK, hD0⟩, hnw⟩ := hv
  have hx := B.exec
  have hb := B.bytes
  have hr := B.returns
  have hts := atoms_spec (ws := wsX3_init) B.pre
  have hown : s.vm.findClass RX3 = some m.cls := findClass_of_methodNamed B.named
  have hlocks := B.notSynchronized
  have hin : meth.name = "<init>" := (name_of_methodNamed B.named B.method).1
  have lk0 := hts (.methodLink RX3 1 objectInit) (by decide +kernel)
  have lk1 := hts (.instanceMethod objectInit) (by decide +kernel)
  have lk2 := hts (.code objectInit ⟨#[0xb1]⟩ 1 none) (by decide +kernel)
  have lk3 : ∀ w ∈ wsX20, w ∈ wsX3_init := by decide +kernel
  have lk4 := hts (.classLink RX3 7 RX2) (by decide +kernel)
  have lk5 := hts (.instantiable RX2 4) (by decide +kernel)
  have lk6 := hts (.initialized RX2) (by decide +kernel)
  have lk7 := hts (.instanceMethod yX2_init) (by decide +kernel)
  have lk8 := hts (.fieldLink RX3 10 "KeyHallModel" "counts" "LKeyHallModel$Rows;") (by decide +kernel)
  have lk9 : ∀ w ∈ wsX30, w ∈ wsX3_init := by decide +kernel
  have lk10 := hts (.fieldLink RX3 16 "KeyHallModel" "coming" "LKeyHallModel$Rows;") (by decide +kernel)
  have lk11 := hts (.fieldLink RX3 19 "KeyHallModel" "rising" "LKeyHallModel$Rows;") (by decide +kernel)
  have lk12 := hts (.fieldLink RX3 22 "KeyHallModel" "points" "LKeyHallModel$Rows;") (by decide +kernel)
  have lk13 := hts (.fieldLink RX3 25 "KeyHallModel" "table" "LKeyHallModel$Rows;") (by decide +kernel)
  have lk14 := hts (.fieldLink RX3 28 "KeyHallModel" "lines" "LKeyHallModel$Rows;") (by decide +kernel)
  have lk15 := hts (.arrayClass .int) (by decide +kernel)
  have lk16 := hts (.fieldLink RX3 31 "KeyHallModel" "words" "[I") (by decide +kernel)
  have lk17 := hts (.fieldLink RX3 35 "KeyHallModel" "tape" "[I") (by decide +kernel)
  subst hsz
  have hD := hD0.self (sz := s.heap.size)
  generalize hAe : va_A [(y, .inr (3, [.null, .null, .null, .null, .null, .null, .null, .null, .int (nI 0), .int (nI 0)]))] s.heap.size = A at hD ⊢
  have hA : ∀ q : Nat, s.heap.size ≤ q → A q := fun q h => by rw [← hAe]; exact Or.inr h
  have hS : va_S A s.heap s.heap [] := va_S.rf
  have hP : va_P D vwCl [(y, .inr (3, [.null, .null, .null, .null, .null, .null, .null, .null, .int (nI 0), .int (nI 0)]))] s.heap := hP
  have hl := lv_entry ([.ref y, .int srt]) (n := 2) (Nat.le_of_ble_eq_true rfl)
  rw [lg_entry_eq]
  generalize (lg_sl ([.ref y, .int srt]) ++ List.replicate (2 - (lg_sl ([.ref y, .int srt])).length) Slot.unset).toArray = ls at hl ⊢
  have hl : lv_has ls 2 [(0, .ref y), (1, .int srt)] := hl
  refine lv_aload_n hx hb dX3_init_0 rfl (lv_at hl 0 rfl) ?_
  refine W.objInit hx hb hown lk0 lk1 lk2 rfl (by rw [hml]; exact hl.1) rfl dX3_init_1 (Nat.le_of_ble_eq_true rfl) (Nat.le_of_ble_eq_true rfl) ?_
  refine W.eq (g2 := F0 m 4 ls []) rfl ?_
  refine lv_aload_n hx hb dX3_init_4 rfl (lv_at hl 0 rfl) ?_
  refine va_new (ci := 2) (fs := [.null, .null, .null, .int (nI 0)]) (C := RX2) (T := TX2) (N := 4) hx hb hts lk3 tyX2 tyX2_ok hown lk4 lk5 lk6 hK hP hD hS hA rfl (by decide) (by show _ ≤ 26; omega) (by show _ ≤ 516; omega) dX3_init_5 (fun q_1 H hP hD hS => ?_)
  have hP : va_P D vwCl [(y, .inr (3, [.null, .null, .null, .null, .null, .null, .null, .null, .int (nI 0), .int (nI 0)])), (q_1, .inr (2, [.null, .null, .null, .int (nI 0)]))] H := hP
  have hD : va_D A [(y, .inr (3, [.null, .null, .null, .null, .null, .null, .null, .null, .int (nI 0), .int (nI 0)])), (q_1, .inr (2, [.null, .null, .null, .int (nI 0)]))] := hD
  refine lv_dup hx hb dX3_init_8 rfl ?_
  have hFc := va_free (wc := [(q_1, .inr (2, [.null, .null, .null, .int (nI 0)]))]) hD hS hA [1] rfl
  refine va_callv (va_runIN (As := []) (rest := [.ref q_1, .ref y]) ⟨hx, hb, hml, hown, hts⟩ (c_X2_init l D cI cJ q_1 H.size) ⟨va_cnB 0 hts gX3_init_X2_init_n9 rfl rfl rfl hnw lk6 (by decide +kernel) ⟨Nat.le_of_ble_eq_true rfl, Nat.le_of_ble_eq_true rfl⟩, rfl, lk7⟩ (z_preSw hK hP hD [1] (by decide) rfl rfl) rfl rfl hl.1 rfl (lv_room (Nat.le_of_ble_eq_true rfl)) dX3_init_9 ⟨by show _ ≤ 26; omega, by show _ ≤ 516; omega⟩) hS (fun q _ h => hFc q h) hFc (fun u_3 t H1 locs ht hvm hr_2 hB hzz1 hkk1 hS => ?_)
  obtain ⟨ra4, rb4, rv4⟩ := u_3
  obtain ⟨hP1, hK1, hD1⟩ := hB
  rw [ht] at hP1
  try dsimp only at hr_2
  obtain ⟨hP, hD⟩ := va_join (wr := [(y, .inr (3, [.null, .null, .null, .null, .null, .null, .null, .null, .int (nI 0), .int (nI 0)]))]) (w1 := [(q_1, .inr (2, [.ref ra4, .ref rb4, .ref rv4, .int (nI 0)])), (ra4, .inl (cI, 16, .inl (fun _ => 0))), (rb4, .inl (cI, 16, .inl (fun _ => 0))), (rv4, .inl (cJ, 16, .inr (.inl (fun _ => 0))))]) hP hD [1] [0] rfl rfl (by decide) (by decide) hkk1 hFc hP1 hD1
  generalize H1 = H at hP hS ⊢
  have hP : va_P D vwCl [(y, .inr (3, [.null, .null, .null, .null, .null, .null, .null, .null, .int (nI 0), .int (nI 0)])), (q_1, .inr (2, [.ref ra4, .ref rb4, .ref rv4, .int (nI 0)])), (ra4, .inl (cI, 16, .inl (fun _ => 0))), (rb4, .inl (cI, 16, .inl (fun _ => 0))), (rv4, .inl (cJ, 16, .inr (.inl (fun _ => 0))))] H := hP.sub [0, 1, 2, 3, 4] rfl
  have hD : va_D A [(y, .inr (3, [.null, .null, .null, .null, .null, .null, .null, .null, .int (nI 0), .int (nI 0)])), (q_1, .inr (2, [.ref ra4, .ref rb4, .ref rv4, .int (nI 0)])), (ra4, .inl (cI, 16, .inl (fun _ => 0))), (rb4, .inl (cI, 16, .inl (fun _ => 0))), (rv4, .inl (cJ, 16, .inr (.inl (fun _ => 0))))] := hD.sub [0, 1, 2, 3, 4] (by decide) rfl
  refine va_putF (D := D) (ci := 3) (v := .ref q_1) (ty := .object "KeyHallModel$Rows") (C := RX3) (T := TX3) (N := 10) hx hb hts lk9 tyX3 tyX3_ok nmX3 hown hK hP hD hS 0 rfl rfl 0 (by decide) lk8 (fun _ h9 => h9) rfl hin rfl (by decide +kernel) rfl rfl (Nat.le_of_ble_eq_true rfl) dX3_init_12 (fun H locs hP hD hS => ?_)
  have hP : va_P D vwCl [(y, .inr (3, [.ref q_1, .null, .null, .null, .null, .null, .null, .null, .int (nI 0), .int (nI 0)])), (q_1, .inr (2, [.ref ra4, .ref rb4, .ref rv4, .int (nI 0)])), (ra4, .inl (cI, 16, .inl (fun _ => 0))), (rb4, .inl (cI, 16, .inl (fun _ => 0))), (rv4, .inl (cJ, 16, .inr (.inl (fun _ => 0))))] H := hP
  have hD : va_D A [(y, .inr (3, [.ref q_1, .null, .null, .null, .null, .null, .null, .null, .int (nI 0), .int (nI 0)])), (q_1, .inr (2, [.ref ra4, .ref rb4, .ref rv4, .int (nI 0)])), (ra4, .inl (cI, 16, .inl (fun _ => 0))), (rb4, .inl (cI, 16, .inl (fun _ => 0))), (rv4, .inl (cJ, 16, .inr (.inl (fun _ => 0))))] := hD
  refine lv_aload_n hx hb dX3_init_15 rfl (lv_at hl 0 rfl) ?_
  refine va_new (ci := 2) (fs := [.null, .null, .null, .int (nI 0)]) (C := RX2) (T := TX2) (N := 4) hx hb hts lk3 tyX2 tyX2_ok hown lk4 lk5 lk6 hK hP hD hS hA rfl (by decide) (by show _ ≤ 26; omega) (by show _ ≤ 516; omega) dX3_init_16 (fun q_5 H hP hD hS => ?_)
  have hP : va_P D vwCl [(y, .inr (3, [.ref q_1, .null, .null, .null, .null, .null, .null, .null, .int (nI 0), .int (nI 0)])), (q_1, .inr (2, [.ref ra4, .ref rb4, .ref rv4, .int (nI 0)])), (ra4, .inl (cI, 16, .inl (fun _ => 0))), (rb4, .inl (cI, 16, .inl (fun _ => 0))), (rv4, .inl (cJ, 16, .inr (.inl (fun _ => 0)))), (q_5, .inr (2, [.null, .null, .null, .int (nI 0)]))] H := hP
  have hD : va_D A [(y, .inr (3, [.ref q_1, .null, .null, .null, .null, .null, .null, .null, .int (nI 0), .int (nI 0)])), (q_1, .inr (2, [.ref ra4, .ref rb4, .ref rv4, .int (nI 0)])), (ra4, .inl (cI, 16, .inl (fun _ => 0))), (rb4, .inl (cI, 16, .inl (fun _ => 0))), (rv4, .inl (cJ, 16, .inr (.inl (fun _ => 0)))), (q_5, .inr (2, [.null, .null, .null, .int (nI 0)]))] := hD
  refine lv_dup hx hb dX3_init_19 rfl ?_
  have hFc := va_free (wc := [(q_5, .inr (2, [.null, .null, .null, .int (nI 0)]))]) hD hS hA [5] rfl
  refine va_callv (va_runIN (As := []) (rest := [.ref q_5, .ref y]) ⟨hx, hb, hml, hown, hts⟩ (c_X2_init l D cI cJ q_5 H.size) ⟨va_cnB 0 hts gX3_init_X2_init_n9 rfl rfl rfl hnw lk6 (by decide +kernel) ⟨Nat.le_of_ble_eq_true rfl, Nat.le_of_ble_eq_true rfl⟩, rfl, lk7⟩ (z_preSw hK hP hD [5] (by decide) rfl rfl) rfl rfl hl.1 rfl (lv_room (Nat.le_of_ble_eq_true rfl)) dX3_init_20 ⟨by show _ ≤ 26; omega, by show _ ≤ 516; omega⟩) hS (fun q _ h => hFc q h) hFc (fun u_7 t H1 locs ht hvm hr_6 hB hzz1 hkk1 hS => ?_)
  obtain ⟨ra8, rb8, rv8⟩ := u_7
  obtain ⟨hP1, hK1, hD1⟩ := hB
  rw [ht] at hP1
  try dsimp only at hr_6
  obtain ⟨hP, hD⟩ := va_join (wr := [(y, .inr (3, [.ref q_1, .null, .null, .null, .null, .null, .null, .null, .int (nI 0), .int (nI 0)])), (q_1, .inr (2, [.ref ra4, .ref rb4, .ref rv4, .int (nI 0)])), (ra4, .inl (cI, 16, .inl (fun _ => 0))), (rb4, .inl (cI, 16, .inl (fun _ => 0))), (rv4, .inl (cJ, 16, .inr (.inl (fun _ => 0))))]) (w1 := [(q_5, .inr (2, [.ref ra8, .ref rb8, .ref rv8, .int (nI 0)])), (ra8, .inl (cI, 16, .inl (fun _ => 0))), (rb8, .inl (cI, 16, .inl (fun _ => 0))), (rv8, .inl (cJ, 16, .inr (.inl (fun _ => 0))))]) hP hD [5] [0, 1, 2, 3, 4] rfl rfl (by decide) (by decide) hkk1 hFc hP1 hD1
  generalize H1 = H at hP hS ⊢
  have hP : va_P D vwCl [(y, .inr (3, [.ref q_1, .null, .null, .null, .null, .null, .null, .null, .int (nI 0), .int (nI 0)])), (q_1, .inr (2, [.ref ra4, .ref rb4, .ref rv4, .int (nI 0)])), (ra4, .inl (cI, 16, .inl (fun _ => 0))), (rb4, .inl (cI, 16, .inl (fun _ => 0))), (rv4, .inl (cJ, 16, .inr (.inl (fun _ => 0)))), (q_5, .inr (2, [.ref ra8, .ref rb8, .ref rv8, .int (nI 0)])), (ra8, .inl (cI, 16, .inl (fun _ => 0))), (rb8, .inl (cI, 16, .inl (fun _ => 0))), (rv8, .inl (cJ, 16, .inr (.inl (fun _ => 0))))] H := hP.sub [0, 1, 2, 3, 4, 5, 6, 7, 8] rfl
  have hD : va_D A [(y, .inr (3, [.ref q_1, .null, .null, .null, .null, .null, .null, .null, .int (nI 0), .int (nI 0)])), (q_1, .inr (2, [.ref ra4, .ref rb4, .ref rv4, .int (nI 0)])), (ra4, .inl (cI, 16, .inl (fun _ => 0))), (rb4, .inl (cI, 16, .inl (fun _ => 0))), (rv4, .inl (cJ, 16, .inr (.inl (fun _ => 0)))), (q_5, .inr (2, [.ref ra8, .ref rb8, .ref rv8, .int (nI 0)])), (ra8, .inl (cI, 16, .inl (fun _ => 0))), (rb8, .inl (cI, 16, .inl (fun _ => 0))), (rv8, .inl (cJ, 16, .inr (.inl (fun _ => 0))))] := hD.sub [0, 1, 2, 3, 4, 5, 6, 7, 8] (by decide) rfl
  refine va_putF (D := D) (ci := 3) (v := .ref q_5) (ty := .object "KeyHallModel$Rows") (C := RX3) (T := TX3) (N := 10) hx hb hts lk9 tyX3 tyX3_ok nmX3 hown hK hP hD hS 0 rfl rfl 1 (by decide) lk10 (fun _ h9 => h9) rfl hin rfl (by decide +kernel) rfl rfl (Nat.le_of_ble_eq_true rfl) dX3_init_23 (fun H locs hP hD hS => ?_)
  have hP : va_P D vwCl [(y, .inr (3, [.ref q_1, .ref q_5, .null, .null, .null, .null, .null, .null, .int (nI 0), .int (nI 0)])), (q_1, .inr (2, [.ref ra4, .ref rb4, .ref rv4, .int (nI 0)])), (ra4, .inl (cI, 16, .inl (fun _ => 0))), (rb4, .inl (cI, 16, .inl (fun _ => 0))), (rv4, .inl (cJ, 16, .inr (.inl (fun _ => 0)))), (q_5, .inr (2, [.ref ra8, .ref rb8, .ref rv8, .int (nI 0)])), (ra8, .inl (cI, 16, .inl (fun _ => 0))), (rb8, .inl (cI, 16, .inl (fun _ => 0))), (rv8, .inl (cJ, 16, .inr (.inl (fun _ => 0))))] H := hP
  have hD : va_D A [(y, .inr (3, [.ref q_1, .ref q_5, .null, .null, .null, .null, .null, .null, .int (nI 0), .int (nI 0)])), (q_1, .inr (2, [.ref ra4, .ref rb4, .ref rv4, .int (nI 0)])), (ra4, .inl (cI, 16, .inl (fun _ => 0))), (rb4, .inl (cI, 16, .inl (fun _ => 0))), (rv4, .inl (cJ, 16, .inr (.inl (fun _ => 0)))), (q_5, .inr (2, [.ref ra8, .ref rb8, .ref rv8, .int (nI 0)])), (ra8, .inl (cI, 16, .inl (fun _ => 0))), (rb8, .inl (cI, 16, .inl (fun _ => 0))), (rv8, .inl (cJ, 16, .inr (.inl (fun _ => 0))))] := hD
  refine lv_aload_n hx hb dX3_init_26 rfl (lv_at hl 0 rfl) ?_
  refine va_new (ci := 2) (fs := [.null, .null, .null, .int (nI 0)]) (C := RX2) (T := TX2) (N := 4) hx hb hts lk3 tyX2 tyX2_ok hown lk4 lk5 lk6 hK hP hD hS hA rfl (by decide) (by show _ ≤ 26; omega) (by show _ ≤ 516; omega) dX3_init_27 (fun q_9 H hP hD hS => ?_)
  have hP : va_P D vwCl [(y, .inr (3, [.ref q_1, .ref q_5, .null, .null, .null, .null, .null, .null, .int (nI 0), .int (nI 0)])), (q_1, .inr (2, [.ref ra4, .ref rb4, .ref rv4, .int (nI 0)])), (ra4, .inl (cI, 16, .inl (fun _ => 0))), (rb4, .inl (cI, 16, .inl (fun _ => 0))), (rv4, .inl (cJ, 16, .inr (.inl (fun _ => 0)))), (q_5, .inr (2, [.ref ra8, .ref rb8, .ref rv8, .int (nI 0)])), (ra8, .inl (cI, 16, .inl (fun _ => 0))), (rb8, .inl (cI, 16, .inl (fun _ => 0))), (rv8, .inl (cJ, 16, .inr (.inl (fun _ => 0)))), (q_9, .inr (2, [.null, .null, .null, .int (nI 0)]))] H := hP
  have hD : va_D A [(y, .inr (3, [.ref q_1, .ref q_5, .null, .null, .null, .null, .null, .null, .int (nI 0), .int (nI 0)])), (q_1, .inr (2, [.ref ra4, .ref rb4, .ref rv4, .int (nI 0)])), (ra4, .inl (cI, 16, .inl (fun _ => 0))), (rb4, .inl (cI, 16, .inl (fun _ => 0))), (rv4, .inl (cJ, 16, .inr (.inl (fun _ => 0)))), (q_5, .inr (2, [.ref ra8, .ref rb8, .ref rv8, .int (nI 0)])), (ra8, .inl (cI, 16, .inl (fun _ => 0))), (rb8, .inl (cI, 16, .inl (fun _ => 0))), (rv8, .inl (cJ, 16, .inr (.inl (fun _ => 0)))), (q_9, .inr (2, [.null, .null, .null, .int (nI 0)]))] := hD
  refine lv_dup hx hb dX3_init_30 rfl ?_
  have hFc := va_free (wc := [(q_9, .inr (2, [.null, .null, .null, .int (nI 0)]))]) hD hS hA [9] rfl
  refine va_callv (va_runIN (As := []) (rest := [.ref q_9, .ref y]) ⟨hx, hb, hml, hown, hts⟩ (c_X2_init l D cI cJ q_9 H.size) ⟨va_cnB 0 hts gX3_init_X2_init_n9 rfl rfl rfl hnw lk6 (by decide +kernel) ⟨Nat.le_of_ble_eq_true rfl, Nat.le_of_ble_eq_true rfl⟩, rfl, lk7⟩ (z_preSw hK hP hD [9] (by decide) rfl rfl) rfl rfl hl.1 rfl (lv_room (Nat.le_of_ble_eq_true rfl)) dX3_init_31 ⟨by show _ ≤ 26; omega, by show _ ≤ 516; omega⟩) hS (fun q _ h => hFc q h) hFc (fun u_11 t H1 locs ht hvm hr_10 hB hzz1 hkk1 hS => ?_)
  obtain ⟨ra12, rb12, rv12⟩ := u_11
  obtain ⟨hP1, hK1, hD1⟩ := hB
  rw [ht] at hP1
  try dsimp only at hr_10
  obtain ⟨hP, hD⟩ := va_join (wr := [(y, .inr (3, [.ref q_1, .ref q_5, .null, .null, .null, .null, .null, .null, .int (nI 0), .int (nI 0)])), (q_1, .inr (2, [.ref ra4, .ref rb4, .ref rv4, .int (nI 0)])), (ra4, .inl (cI, 16, .inl (fun _ => 0))), (rb4, .inl (cI, 16, .inl (fun _ => 0))), (rv4, .inl (cJ, 16, .inr (.inl (fun _ => 0)))), (q_5, .inr (2, [.ref ra8, .ref rb8, .ref rv8, .int (nI 0)])), (ra8, .inl (cI, 16, .inl (fun _ => 0))), (rb8, .inl (cI, 16, .inl (fun _ => 0))), (rv8, .inl (cJ, 16, .inr (.inl (fun _ => 0))))]) (w1 := [(q_9, .inr (2, [.ref ra12, .ref rb12, .ref rv12, .int (nI 0)])), (ra12, .inl (cI, 16, .inl (fun _ => 0))), (rb12, .inl (cI, 16, .inl (fun _ => 0))), (rv12, .inl (cJ, 16, .inr (.inl (fun _ => 0))))]) hP hD [9] [0, 1, 2, 3, 4, 5, 6, 7, 8] rfl rfl (by decide) (by decide) hkk1 hFc hP1 hD1
  generalize H1 = H at hP hS ⊢
  have hP : va_P D vwCl [(y, .inr (3, [.ref q_1, .ref q_5, .null, .null, .null, .null, .null, .null, .int (nI 0), .int (nI 0)])), (q_1, .inr (2, [.ref ra4, .ref rb4, .ref rv4, .int (nI 0)])), (ra4, .inl (cI, 16, .inl (fun _ => 0))), (rb4, .inl (cI, 16, .inl (fun _ => 0))), (rv4, .inl (cJ, 16, .inr (.inl (fun _ => 0)))), (q_5, .inr (2, [.ref ra8, .ref rb8, .ref rv8, .int (nI 0)])), (ra8, .inl (cI, 16, .inl (fun _ => 0))), (rb8, .inl (cI, 16, .inl (fun _ => 0))), (rv8, .inl (cJ, 16, .inr (.inl (fun _ => 0)))), (q_9, .inr (2, [.ref ra12, .ref rb12, .ref rv12, .int (nI 0)])), (ra12, .inl (cI, 16, .inl (fun _ => 0))), (rb12, .inl (cI, 16, .inl (fun _ => 0))), (rv12, .inl (cJ, 16, .inr (.inl (fun _ => 0))))] H := hP.sub [0, 1, 2, 3, 4, 5, 6, 7, 8, 9, 10, 11, 12] rfl
  have hD : va_D A [(y, .inr (3, [.ref q_1, .ref q_5, .null, .null, .null, .null, .null, .null, .int (nI 0), .int (nI 0)])), (q_1, .inr (2, [.ref ra4, .ref rb4, .ref rv4, .int (nI 0)])), (ra4, .inl (cI, 16, .inl (fun _ => 0))), (rb4, .inl (cI, 16, .inl (fun _ => 0))), (rv4, .inl (cJ, 16, .inr (.inl (fun _ => 0)))), (q_5, .inr (2, [.ref ra8, .ref rb8, .ref rv8, .int (nI 0)])), (ra8, .inl (cI, 16, .inl (fun _ => 0))), (rb8, .inl (cI, 16, .inl (fun _ => 0))), (rv8, .inl (cJ, 16, .inr (.inl (fun _ => 0)))), (q_9, .inr (2, [.ref ra12, .ref rb12, .ref rv12, .int (nI 0)])), (ra12, .inl (cI, 16, .inl (fun _ => 0))), (rb12, .inl (cI, 16, .inl (fun _ => 0))), (rv12, .inl (cJ, 16, .inr (.inl (fun _ => 0))))] := hD.sub [0, 1, 2, 3, 4, 5, 6, 7, 8, 9, 10, 11, 12] (by decide) rfl
  refine va_putF (D := D) (ci := 3) (v := .ref q_9) (ty := .object "KeyHallModel$Rows") (C := RX3) (T := TX3) (N := 10) hx hb hts lk9 tyX3 tyX3_ok nmX3 hown hK hP hD hS 0 rfl rfl 2 (by decide) lk11 (fun _ h9 => h9) rfl hin rfl (by decide +kernel) rfl rfl (Nat.le_of_ble_eq_true rfl) dX3_init_34 (fun H locs hP hD hS => ?_)
  have hP : va_P D vwCl [(y, .inr (3, [.ref q_1, .ref q_5, .ref q_9, .null, .null, .null, .null, .null, .int (nI 0), .int (nI 0)])), (q_1, .inr (2, [.ref ra4, .ref rb4, .ref rv4, .int (nI 0)])), (ra4, .inl (cI, 16, .inl (fun _ => 0))), (rb4, .inl (cI, 16, .inl (fun _ => 0))), (rv4, .inl (cJ, 16, .inr (.inl (fun _ => 0)))), (q_5, .inr (2, [.ref ra8, .ref rb8, .ref rv8, .int (nI 0)])), (ra8, .inl (cI, 16, .inl (fun _ => 0))), (rb8, .inl (cI, 16, .inl (fun _ => 0))), (rv8, .inl (cJ, 16, .inr (.inl (fun _ => 0)))), (q_9, .inr (2, [.ref ra12, .ref rb12, .ref rv12, .int (nI 0)])), (ra12, .inl (cI, 16, .inl (fun _ => 0))), (rb12, .inl (cI, 16, .inl (fun _ => 0))), (rv12, .inl (cJ, 16, .inr (.inl (fun _ => 0))))] H := hP
  have hD : va_D A [(y, .inr (3, [.ref q_1, .ref q_5, .ref q_9, .null, .null, .null, .null, .null, .int (nI 0), .int (nI 0)])), (q_1, .inr (2, [.ref ra4, .ref rb4, .ref rv4, .int (nI 0)])), (ra4, .inl (cI, 16, .inl (fun _ => 0))), (rb4, .inl (cI, 16, .inl (fun _ => 0))), (rv4, .inl (cJ, 16, .inr (.inl (fun _ => 0)))), (q_5, .inr (2, [.ref ra8, .ref rb8, .ref rv8, .int (nI 0)])), (ra8, .inl (cI, 16, .inl (fun _ => 0))), (rb8, .inl (cI, 16, .inl (fun _ => 0))), (rv8, .inl (cJ, 16, .inr (.inl (fun _ => 0)))), (q_9, .inr (2, [.ref ra12, .ref rb12, .ref rv12, .int (nI 0)])), (ra12, .inl (cI, 16, .inl (fun _ => 0))), (rb12, .inl (cI, 16, .inl (fun _ => 0))), (rv12, .inl (cJ, 16, .inr (.inl (fun _ => 0))))] := hD
  refine lv_aload_n hx hb dX3_init_37 rfl (lv_at hl 0 rfl) ?_
  refine va_new (ci := 2) (fs := [.null, .null, .null, .int (nI 0)]) (C := RX2) (T := TX2) (N := 4) hx hb hts lk3 tyX2 tyX2_ok hown lk4 lk5 lk6 hK hP hD hS hA rfl (by decide) (by show _ ≤ 26; omega) (by show _ ≤ 516; omega) dX3_init_38 (fun q_13 H hP hD hS => ?_)
  have hP : va_P D vwCl [(y, .inr (3, [.ref q_1, .ref q_5, .ref q_9, .null, .null, .null, .null, .null, .int (nI 0), .int (nI 0)])), (q_1, .inr (2, [.ref ra4, .ref rb4, .ref rv4, .int (nI 0)])), (ra4, .inl (cI, 16, .inl (fun _ => 0))), (rb4, .inl (cI, 16, .inl (fun _ => 0))), (rv4, .inl (cJ, 16, .inr (.inl (fun _ => 0)))), (q_5, .inr (2, [.ref ra8, .ref rb8, .ref rv8, .int (nI 0)])), (ra8, .inl (cI, 16, .inl (fun _ => 0))), (rb8, .inl (cI, 16, .inl (fun _ => 0))), (rv8, .inl (cJ, 16, .inr (.inl (fun _ => 0)))), (q_9, .inr (2, [.ref ra12, .ref rb12, .ref rv12, .int (nI 0)])), (ra12, .inl (cI, 16, .inl (fun _ => 0))), (rb12, .inl (cI, 16, .inl (fun _ => 0))), (rv12, .inl (cJ, 16, .inr (.inl (fun _ => 0)))), (q_13, .inr (2, [.null, .null, .null, .int (nI 0)]))] H := hP
  have hD : va_D A [(y, .inr (3, [.ref q_1, .ref q_5, .ref q_9, .null, .null, .null, .null, .null, .int (nI 0), .int (nI 0)])), (q_1, .inr (2, [.ref ra4, .ref rb4, .ref rv4, .int (nI 0)])), (ra4, .inl (cI, 16, .inl (fun _ => 0))), (rb4, .inl (cI, 16, .inl (fun _ => 0))), (rv4, .inl (cJ, 16, .inr (.inl (fun _ => 0)))), (q_5, .inr (2, [.ref ra8, .ref rb8, .ref rv8, .int (nI 0)])), (ra8, .inl (cI, 16, .inl (fun _ => 0))), (rb8, .inl (cI, 16, .inl (fun _ => 0))), (rv8, .inl (cJ, 16, .inr (.inl (fun _ => 0)))), (q_9, .inr (2, [.ref ra12, .ref rb12, .ref rv12, .int (nI 0)])), (ra12, .inl (cI, 16, .inl (fun _ => 0))), (rb12, .inl (cI, 16, .inl (fun _ => 0))), (rv12, .inl (cJ, 16, .inr (.inl (fun _ => 0)))), (q_13, .inr (2, [.null, .null, .null, .int (nI 0)]))] := hD
  refine lv_dup hx hb dX3_init_41 rfl ?_
  have hFc := va_free (wc := [(q_13, .inr (2, [.null, .null, .null, .int (nI 0)]))]) hD hS hA [13] rfl
  refine va_callv (va_runIN (As := []) (rest := [.ref q_13, .ref y]) ⟨hx, hb, hml, hown, hts⟩ (c_X2_init l D cI cJ q_13 H.size) ⟨va_cnB 0 hts gX3_init_X2_init_n9 rfl rfl rfl hnw lk6 (by decide +kernel) ⟨Nat.le_of_ble_eq_true rfl, Nat.le_of_ble_eq_true rfl⟩, rfl, lk7⟩ (z_preSw hK hP hD [13] (by decide) rfl rfl) rfl rfl hl.1 rfl (lv_room (Nat.le_of_ble_eq_true rfl)) dX3_init_42 ⟨by show _ ≤ 26; omega, by show _ ≤ 516; omega⟩) hS (fun q _ h => hFc q h) hFc (fun u_15 t H1 locs ht hvm hr_14 hB hzz1 hkk1 hS => ?_)
  obtain ⟨ra16, rb16, rv16⟩ := u_15
  obtain ⟨hP1, hK1, hD1⟩ := hB
  rw [ht] at hP1
  try dsimp only at hr_14
  obtain ⟨hP, hD⟩ := va_join (wr := [(y, .inr (3, [.ref q_1, .ref q_5, .ref q_9, .null, .null, .null, .null, .null, .int (nI 0), .int (nI 0)])), (q_1, .inr (2, [.ref ra4, .ref rb4, .ref rv4, .int (nI 0)])), (ra4, .inl (cI, 16, .inl (fun _ => 0))), (rb4, .inl (cI, 16, .inl (fun _ => 0))), (rv4, .inl (cJ, 16, .inr (.inl (fun _ => 0)))), (q_5, .inr (2, [.ref ra8, .ref rb8, .ref rv8, .int (nI 0)])), (ra8, .inl (cI, 16, .inl (fun _ => 0))), (rb8, .inl (cI, 16, .inl (fun _ => 0))), (rv8, .inl (cJ, 16, .inr (.inl (fun _ => 0)))), (q_9, .inr (2, [.ref ra12, .ref rb12, .ref rv12, .int (nI 0)])), (ra12, .inl (cI, 16, .inl (fun _ => 0))), (rb12, .inl (cI, 16, .inl (fun _ => 0))), (rv12, .inl (cJ, 16, .inr (.inl (fun _ => 0))))]) (w1 := [(q_13, .inr (2, [.ref ra16, .ref rb16, .ref rv16, .int (nI 0)])), (ra16, .inl (cI, 16, .inl (fun _ => 0))), (rb16, .inl (cI, 16, .inl (fun _ => 0))), (rv16, .inl (cJ, 16, .inr (.inl (fun _ => 0))))]) hP hD [13] [0, 1, 2, 3, 4, 5, 6, 7, 8, 9, 10, 11, 12] rfl rfl (by decide) (by decide) hkk1 hFc hP1 hD1
  generalize H1 = H at hP hS ⊢
  have hP : va_P D vwCl [(y, .inr (3, [.ref q_1, .ref q_5, .ref q_9, .null, .null, .null, .null, .null, .int (nI 0), .int (nI 0)])), (q_1, .inr (2, [.ref ra4, .ref rb4, .ref rv4, .int (nI 0)])), (ra4, .inl (cI, 16, .inl (fun _ => 0))), (rb4, .inl (cI, 16, .inl (fun _ => 0))), (rv4, .inl (cJ, 16, .inr (.inl (fun _ => 0)))), (q_5, .inr (2, [.ref ra8, .ref rb8, .ref rv8, .int (nI 0)])), (ra8, .inl (cI, 16, .inl (fun _ => 0))), (rb8, .inl (cI, 16, .inl (fun _ => 0))), (rv8, .inl (cJ, 16, .inr (.inl (fun _ => 0)))), (q_9, .inr (2, [.ref ra12, .ref rb12, .ref rv12, .int (nI 0)])), (ra12, .inl (cI, 16, .inl (fun _ => 0))), (rb12, .inl (cI, 16, .inl (fun _ => 0))), (rv12, .inl (cJ, 16, .inr (.inl (fun _ => 0)))), (q_13, .inr (2, [.ref ra16, .ref rb16, .ref rv16, .int (nI 0)])), (ra16, .inl (cI, 16, .inl (fun _ => 0))), (rb16, .inl (cI, 16, .inl (fun _ => 0))), (rv16, .inl (cJ, 16, .inr (.inl (fun _ => 0))))] H := hP.sub [0, 1, 2, 3, 4, 5, 6, 7, 8, 9, 10, 11, 12, 13, 14, 15, 16] rfl
  have hD : va_D A [(y, .inr (3, [.ref q_1, .ref q_5, .ref q_9, .null, .null, .null, .null, .null, .int (nI 0), .int (nI 0)])), (q_1, .inr (2, [.ref ra4, .ref rb4, .ref rv4, .int (nI 0)])), (ra4, .inl (cI, 16, .inl (fun _ => 0))), (rb4, .inl (cI, 16, .inl (fun _ => 0))), (rv4, .inl (cJ, 16, .inr (.inl (fun _ => 0)))), (q_5, .inr (2, [.ref ra8, .ref rb8, .ref rv8, .int (nI 0)])), (ra8, .inl (cI, 16, .inl (fun _ => 0))), (rb8, .inl (cI, 16, .inl (fun _ => 0))), (rv8, .inl (cJ, 16, .inr (.inl (fun _ => 0)))), (q_9, .inr (2, [.ref ra12, .ref rb12, .ref rv12, .int (nI 0)])), (ra12, .inl (cI, 16, .inl (fun _ => 0))), (rb12, .inl (cI, 16, .inl (fun _ => 0))), (rv12, .inl (cJ, 16, .inr (.inl (fun _ => 0)))), (q_13, .inr (2, [.ref ra16, .ref rb16, .ref rv16, .int (nI 0)])), (ra16, .inl (cI, 16, .inl (fun _ => 0))), (rb16, .inl (cI, 16, .inl (fun _ => 0))), (rv16, .inl (cJ, 16, .inr (.inl (fun _ => 0))))] := hD.sub [0, 1, 2, 3, 4, 5, 6, 7, 8, 9, 10, 11, 12, 13, 14, 15, 16] (by decide) rfl
  refine va_putF (D := D) (ci := 3) (v := .ref q_13) (ty := .object "KeyHallModel$Rows") (C := RX3) (T := TX3) (N := 10) hx hb hts lk9 tyX3 tyX3_ok nmX3 hown hK hP hD hS 0 rfl rfl 3 (by decide) lk12 (fun _ h9 => h9) rfl hin rfl (by decide +kernel) rfl rfl (Nat.le_of_ble_eq_true rfl) dX3_init_45 (fun H locs hP hD hS => ?_)
  have hP : va_P D vwCl [(y, .inr (3, [.ref q_1, .ref q_5, .ref q_9, .ref q_13, .null, .null, .null, .null, .int (nI 0), .int (nI 0)])), (q_1, .inr (2, [.ref ra4, .ref rb4, .ref rv4, .int (nI 0)])), (ra4, .inl (cI, 16, .inl (fun _ => 0))), (rb4, .inl (cI, 16, .inl (fun _ => 0))), (rv4, .inl (cJ, 16, .inr (.inl (fun _ => 0)))), (q_5, .inr (2, [.ref ra8, .ref rb8, .ref rv8, .int (nI 0)])), (ra8, .inl (cI, 16, .inl (fun _ => 0))), (rb8, .inl (cI, 16, .inl (fun _ => 0))), (rv8, .inl (cJ, 16, .inr (.inl (fun _ => 0)))), (q_9, .inr (2, [.ref ra12, .ref rb12, .ref rv12, .int (nI 0)])), (ra12, .inl (cI, 16, .inl (fun _ => 0))), (rb12, .inl (cI, 16, .inl (fun _ => 0))), (rv12, .inl (cJ, 16, .inr (.inl (fun _ => 0)))), (q_13, .inr (2, [.ref ra16, .ref rb16, .ref rv16, .int (nI 0)])), (ra16, .inl (cI, 16, .inl (fun _ => 0))), (rb16, .inl (cI, 16, .inl (fun _ => 0))), (rv16, .inl (cJ, 16, .inr (.inl (fun _ => 0))))] H := hP
  have hD : va_D A [(y, .inr (3, [.ref q_1, .ref q_5, .ref q_9, .ref q_13, .null, .null, .null, .null, .int (nI 0), .int (nI 0)])), (q_1, .inr (2, [.ref ra4, .ref rb4, .ref rv4, .int (nI 0)])), (ra4, .inl (cI, 16, .inl (fun _ => 0))), (rb4, .inl (cI, 16, .inl (fun _ => 0))), (rv4, .inl (cJ, 16, .inr (.inl (fun _ => 0)))), (q_5, .inr (2, [.ref ra8, .ref rb8, .ref rv8, .int (nI 0)])), (ra8, .inl (cI, 16, .inl (fun _ => 0))), (rb8, .inl (cI, 16, .inl (fun _ => 0))), (rv8, .inl (cJ, 16, .inr (.inl (fun _ => 0)))), (q_9, .inr (2, [.ref ra12, .ref rb12, .ref rv12, .int (nI 0)])), (ra12, .inl (cI, 16, .inl (fun _ => 0))), (rb12, .inl (cI, 16, .inl (fun _ => 0))), (rv12, .inl (cJ, 16, .inr (.inl (fun _ => 0)))), (q_13, .inr (2, [.ref ra16, .ref rb16, .ref rv16, .int (nI 0)])), (ra16, .inl (cI, 16, .inl (fun _ => 0))), (rb16, .inl (cI, 16, .inl (fun _ => 0))), (rv16, .inl (cJ, 16, .inr (.inl (fun _ => 0))))] := hD
  refine lv_aload_n hx hb dX3_init_48 rfl (lv_at hl 0 rfl) ?_
  refine va_new (ci := 2) (fs := [.null, .null, .null, .int (nI 0)]) (C := RX2) (T := TX2) (N := 4) hx hb hts lk3 tyX2 tyX2_ok hown lk4 lk5 lk6 hK hP hD hS hA rfl (by decide) (by show _ ≤ 26; omega) (by show _ ≤ 516; omega) dX3_init_49 (fun q_17 H hP hD hS => ?_)
  have hP : va_P D vwCl [(y, .inr (3, [.ref q_1, .ref q_5, .ref q_9, .ref q_13, .null, .null, .null, .null, .int (nI 0), .int (nI 0)])), (q_1, .inr (2, [.ref ra4, .ref rb4, .ref rv4, .int (nI 0)])), (ra4, .inl (cI, 16, .inl (fun _ => 0))), (rb4, .inl (cI, 16, .inl (fun _ => 0))), (rv4, .inl (cJ, 16, .inr (.inl (fun _ => 0)))), (q_5, .inr (2, [.ref ra8, .ref rb8, .ref rv8, .int (nI 0)])), (ra8, .inl (cI, 16, .inl (fun _ => 0))), (rb8, .inl (cI, 16, .inl (fun _ => 0))), (rv8, .inl (cJ, 16, .inr (.inl (fun _ => 0)))), (q_9, .inr (2, [.ref ra12, .ref rb12, .ref rv12, .int (nI 0)])), (ra12, .inl (cI, 16, .inl (fun _ => 0))), (rb12, .inl (cI, 16, .inl (fun _ => 0))), (rv12, .inl (cJ, 16, .inr (.inl (fun _ => 0)))), (q_13, .inr (2, [.ref ra16, .ref rb16, .ref rv16, .int (nI 0)])), (ra16, .inl (cI, 16, .inl (fun _ => 0))), (rb16, .inl (cI, 16, .inl (fun _ => 0))), (rv16, .inl (cJ, 16, .inr (.inl (fun _ => 0)))), (q_17, .inr (2, [.null, .null, .null, .int (nI 0)]))] H := hP
  have hD : va_D A [(y, .inr (3, [.ref q_1, .ref q_5, .ref q_9, .ref q_13, .null, .null, .null, .null, .int (nI 0), .int (nI 0)])), (q_1, .inr (2, [.ref ra4, .ref rb4, .ref rv4, .int (nI 0)])), (ra4, .inl (cI, 16, .inl (fun _ => 0))), (rb4, .inl (cI, 16, .inl (fun _ => 0))), (rv4, .inl (cJ, 16, .inr (.inl (fun _ => 0)))), (q_5, .inr (2, [.ref ra8, .ref rb8, .ref rv8, .int (nI 0)])), (ra8, .inl (cI, 16, .inl (fun _ => 0))), (rb8, .inl (cI, 16, .inl (fun _ => 0))), (rv8, .inl (cJ, 16, .inr (.inl (fun _ => 0)))), (q_9, .inr (2, [.ref ra12, .ref rb12, .ref rv12, .int (nI 0)])), (ra12, .inl (cI, 16, .inl (fun _ => 0))), (rb12, .inl (cI, 16, .inl (fun _ => 0))), (rv12, .inl (cJ, 16, .inr (.inl (fun _ => 0)))), (q_13, .inr (2, [.ref ra16, .ref rb16, .ref rv16, .int (nI 0)])), (ra16, .inl (cI, 16, .inl (fun _ => 0))), (rb16, .inl (cI, 16, .inl (fun _ => 0))), (rv16, .inl (cJ, 16, .inr (.inl (fun _ => 0)))), (q_17, .inr (2, [.null, .null, .null, .int (nI 0)]))] := hD
  refine lv_dup hx hb dX3_init_52 rfl ?_
  have hFc := va_free (wc := [(q_17, .inr (2, [.null, .null, .null, .int (nI 0)]))]) hD hS hA [17] rfl
  refine va_callv (va_runIN (As := []) (rest := [.ref q_17, .ref y]) ⟨hx, hb, hml, hown, hts⟩ (c_X2_init l D cI cJ q_17 H.size) ⟨va_cnB 0 hts gX3_init_X2_init_n9 rfl rfl rfl hnw lk6 (by decide +kernel) ⟨Nat.le_of_ble_eq_true rfl, Nat.le_of_ble_eq_true rfl⟩, rfl, lk7⟩ (z_preSw hK hP hD [17] (by decide) rfl rfl) rfl rfl hl.1 rfl (lv_room (Nat.le_of_ble_eq_true rfl)) dX3_init_53 ⟨by show _ ≤ 26; omega, by show _ ≤ 516; omega⟩) hS (fun q _ h => hFc q h) hFc (fun u_19 t H1 locs ht hvm hr_18 hB hzz1 hkk1 hS => ?_)
  obtain ⟨ra20, rb20, rv20⟩ := u_19
  obtain ⟨hP1, hK1, hD1⟩ := hB
  rw [ht] at hP1
  try dsimp only at hr_18
  obtain ⟨hP, hD⟩ := va_join (wr := [(y, .inr (3, [.ref q_1, .ref q_5, .ref q_9, .ref q_13, .null, .null, .null, .null, .int (nI 0), .int (nI 0)])), (q_1, .inr (2, [.ref ra4, .ref rb4, .ref rv4, .int (nI 0)])), (ra4, .inl (cI, 16, .inl (fun _ => 0))), (rb4, .inl (cI, 16, .inl (fun _ => 0))), (rv4, .inl (cJ, 16, .inr (.inl (fun _ => 0)))), (q_5, .inr (2, [.ref ra8, .ref rb8, .ref rv8, .int (nI 0)])), (ra8, .inl (cI, 16, .inl (fun _ => 0))), (rb8, .inl (cI, 16, .inl (fun _ => 0))), (rv8, .inl (cJ, 16, .inr (.inl (fun _ => 0)))), (q_9, .inr (2, [.ref ra12, .ref rb12, .ref rv12, .int (nI 0)])), (ra12, .inl (cI, 16, .inl (fun _ => 0))), (rb12, .inl (cI, 16, .inl (fun _ => 0))), (rv12, .inl (cJ, 16, .inr (.inl (fun _ => 0)))), (q_13, .inr (2, [.ref ra16, .ref rb16, .ref rv16, .int (nI 0)])), (ra16, .inl (cI, 16, .inl (fun _ => 0))), (rb16, .inl (cI, 16, .inl (fun _ => 0))), (rv16, .inl (cJ, 16, .inr (.inl (fun _ => 0))))]) (w1 := [(q_17, .inr (2, [.ref ra20, .ref rb20, .ref rv20, .int (nI 0)])), (ra20, .inl (cI, 16, .inl (fun _ => 0))), (rb20, .inl (cI, 16, .inl (fun _ => 0))), (rv20, .inl (cJ, 16, .inr (.inl (fun _ => 0))))]) hP hD [17] [0, 1, 2, 3, 4, 5, 6, 7, 8, 9, 10, 11, 12, 13, 14, 15, 16] rfl rfl (by decide) (by decide) hkk1 hFc hP1 hD1
  generalize H1 = H at hP hS ⊢
  have hP : va_P D vwCl [(y, .inr (3, [.ref q_1, .ref q_5, .ref q_9, .ref q_13, .null, .null, .null, .null, .int (nI 0), .int (nI 0)])), (q_1, .inr (2, [.ref ra4, .ref rb4, .ref rv4, .int (nI 0)])), (ra4, .inl (cI, 16, .inl (fun _ => 0))), (rb4, .inl (cI, 16, .inl (fun _ => 0))), (rv4, .inl (cJ, 16, .inr (.inl (fun _ => 0)))), (q_5, .inr (2, [.ref ra8, .ref rb8, .ref rv8, .int (nI 0)])), (ra8, .inl (cI, 16, .inl (fun _ => 0))), (rb8, .inl (cI, 16, .inl (fun _ => 0))), (rv8, .inl (cJ, 16, .inr (.inl (fun _ => 0)))), (q_9, .inr (2, [.ref ra12, .ref rb12, .ref rv12, .int (nI 0)])), (ra12, .inl (cI, 16, .inl (fun _ => 0))), (rb12, .inl (cI, 16, .inl (fun _ => 0))), (rv12, .inl (cJ, 16, .inr (.inl (fun _ => 0)))), (q_13, .inr (2, [.ref ra16, .ref rb16, .ref rv16, .int (nI 0)])), (ra16, .inl (cI, 16, .inl (fun _ => 0))), (rb16, .inl (cI, 16, .inl (fun _ => 0))), (rv16, .inl (cJ, 16, .inr (.inl (fun _ => 0)))), (q_17, .inr (2, [.ref ra20, .ref rb20, .ref rv20, .int (nI 0)])), (ra20, .inl (cI, 16, .inl (fun _ => 0))), (rb20, .inl (cI, 16, .inl (fun _ => 0))), (rv20, .inl (cJ, 16, .inr (.inl (fun _ => 0))))] H := hP.sub [0, 1, 2, 3, 4, 5, 6, 7, 8, 9, 10, 11, 12, 13, 14, 15, 16, 17, 18, 19, 20] rfl
  have hD : va_D A [(y, .inr (3, [.ref q_1, .ref q_5, .ref q_9, .ref q_13, .null, .null, .null, .null, .int (nI 0), .int (nI 0)])), (q_1, .inr (2, [.ref ra4, .ref rb4, .ref rv4, .int (nI 0)])), (ra4, .inl (cI, 16, .inl (fun _ => 0))), (rb4, .inl (cI, 16, .inl (fun _ => 0))), (rv4, .inl (cJ, 16, .inr (.inl (fun _ => 0)))), (q_5, .inr (2, [.ref ra8, .ref rb8, .ref rv8, .int (nI 0)])), (ra8, .inl (cI, 16, .inl (fun _ => 0))), (rb8, .inl (cI, 16, .inl (fun _ => 0))), (rv8, .inl (cJ, 16, .inr (.inl (fun _ => 0)))), (q_9, .inr (2, [.ref ra12, .ref rb12, .ref rv12, .int (nI 0)])), (ra12, .inl (cI, 16, .inl (fun _ => 0))), (rb12, .inl (cI, 16, .inl (fun _ => 0))), (rv12, .inl (cJ, 16, .inr (.inl (fun _ => 0)))), (q_13, .inr (2, [.ref ra16, .ref rb16, .ref rv16, .int (nI 0)])), (ra16, .inl (cI, 16, .inl (fun _ => 0))), (rb16, .inl (cI, 16, .inl (fun _ => 0))), (rv16, .inl (cJ, 16, .inr (.inl (fun _ => 0)))), (q_17, .inr (2, [.ref ra20, .ref rb20, .ref rv20, .int (nI 0)])), (ra20, .inl (cI, 16, .inl (fun _ => 0))), (rb20, .inl (cI, 16, .inl (fun _ => 0))), (rv20, .inl (cJ, 16, .inr (.inl (fun _ => 0))))] := hD.sub [0, 1, 2, 3, 4, 5, 6, 7, 8, 9, 10, 11, 12, 13, 14, 15, 16, 17, 18, 19, 20] (by decide) rfl
  refine va_putF (D := D) (ci := 3) (v := .ref q_17) (ty := .object "KeyHallModel$Rows") (C := RX3) (T := TX3) (N := 10) hx hb hts lk9 tyX3 tyX3_ok nmX3 hown hK hP hD hS 0 rfl rfl 4 (by decide) lk13 (fun _ h9 => h9) rfl hin rfl (by decide +kernel) rfl rfl (Nat.le_of_ble_eq_true rfl) dX3_init_56 (fun H locs hP hD hS => ?_)
  have hP : va_P D vwCl [(y, .inr (3, [.ref q_1, .ref q_5, .ref q_9, .ref q_13, .ref q_17, .null, .null, .null, .int (nI 0), .int (nI 0)])), (q_1, .inr (2, [.ref ra4, .ref rb4, .ref rv4, .int (nI 0)])), (ra4, .inl (cI, 16, .inl (fun _ => 0))), (rb4, .inl (cI, 16, .inl (fun _ => 0))), (rv4, .inl (cJ, 16, .inr (.inl (fun _ => 0)))), (q_5, .inr (2, [.ref ra8, .ref rb8, .ref rv8, .int (nI 0)])), (ra8, .inl (cI, 16, .inl (fun _ => 0))), (rb8, .inl (cI, 16, .inl (fun _ => 0))), (rv8, .inl (cJ, 16, .inr (.inl (fun _ => 0)))), (q_9, .inr (2, [.ref ra12, .ref rb12, .ref rv12, .int (nI 0)])), (ra12, .inl (cI, 16, .inl (fun _ => 0))), (rb12, .inl (cI, 16, .inl (fun _ => 0))), (rv12, .inl (cJ, 16, .inr (.inl (fun _ => 0)))), (q_13, .inr (2, [.ref ra16, .ref rb16, .ref rv16, .int (nI 0)])), (ra16, .inl (cI, 16, .inl (fun _ => 0))), (rb16, .inl (cI, 16, .inl (fun _ => 0))), (rv16, .inl (cJ, 16, .inr (.inl (fun _ => 0)))), (q_17, .inr (2, [.ref ra20, .ref rb20, .ref rv20, .int (nI 0)])), (ra20, .inl (cI, 16, .inl (fun _ => 0))), (rb20, .inl (cI, 16, .inl (fun _ => 0))), (rv20, .inl (cJ, 16, .inr (.inl (fun _ => 0))))] H := hP
  have hD : va_D A [(y, .inr (3, [.ref q_1, .ref q_5, .ref q_9, .ref q_13, .ref q_17, .null, .null, .null, .int (nI 0), .int (nI 0)])), (q_1, .inr (2, [.ref ra4, .ref rb4, .ref rv4, .int (nI 0)])), (ra4, .inl (cI, 16, .inl (fun _ => 0))), (rb4, .inl (cI, 16, .inl (fun _ => 0))), (rv4, .inl (cJ, 16, .inr (.inl (fun _ => 0)))), (q_5, .inr (2, [.ref ra8, .ref rb8, .ref rv8, .int (nI 0)])), (ra8, .inl (cI, 16, .inl (fun _ => 0))), (rb8, .inl (cI, 16, .inl (fun _ => 0))), (rv8, .inl (cJ, 16, .inr (.inl (fun _ => 0)))), (q_9, .inr (2, [.ref ra12, .ref rb12, .ref rv12, .int (nI 0)])), (ra12, .inl (cI, 16, .inl (fun _ => 0))), (rb12, .inl (cI, 16, .inl (fun _ => 0))), (rv12, .inl (cJ, 16, .inr (.inl (fun _ => 0)))), (q_13, .inr (2, [.ref ra16, .ref rb16, .ref rv16, .int (nI 0)])), (ra16, .inl (cI, 16, .inl (fun _ => 0))), (rb16, .inl (cI, 16, .inl (fun _ => 0))), (rv16, .inl (cJ, 16, .inr (.inl (fun _ => 0)))), (q_17, .inr (2, [.ref ra20, .ref rb20, .ref rv20, .int (nI 0)])), (ra20, .inl (cI, 16, .inl (fun _ => 0))), (rb20, .inl (cI, 16, .inl (fun _ => 0))), (rv20, .inl (cJ, 16, .inr (.inl (fun _ => 0))))] := hD
  refine lv_aload_n hx hb dX3_init_59 rfl (lv_at hl 0 rfl) ?_
  refine va_new (ci := 2) (fs := [.null, .null, .null, .int (nI 0)]) (C := RX2) (T := TX2) (N := 4) hx hb hts lk3 tyX2 tyX2_ok hown lk4 lk5 lk6 hK hP hD hS hA rfl (by decide) (by show _ ≤ 26; omega) (by show _ ≤ 516; omega) dX3_init_60 (fun q_21 H hP hD hS => ?_)
  have hP : va_P D vwCl [(y, .inr (3, [.ref q_1, .ref q_5, .ref q_9, .ref q_13, .ref q_17, .null, .null, .null, .int (nI 0), .int (nI 0)])), (q_1, .inr (2, [.ref ra4, .ref rb4, .ref rv4, .int (nI 0)])), (ra4, .inl (cI, 16, .inl (fun _ => 0))), (rb4, .inl (cI, 16, .inl (fun _ => 0))), (rv4, .inl (cJ, 16, .inr (.inl (fun _ => 0)))), (q_5, .inr (2, [.ref ra8, .ref rb8, .ref rv8, .int (nI 0)])), (ra8, .inl (cI, 16, .inl (fun _ => 0))), (rb8, .inl (cI, 16, .inl (fun _ => 0))), (rv8, .inl (cJ, 16, .inr (.inl (fun _ => 0)))), (q_9, .inr (2, [.ref ra12, .ref rb12, .ref rv12, .int (nI 0)])), (ra12, .inl (cI, 16, .inl (fun _ => 0))), (rb12, .inl (cI, 16, .inl (fun _ => 0))), (rv12, .inl (cJ, 16, .inr (.inl (fun _ => 0)))), (q_13, .inr (2, [.ref ra16, .ref rb16, .ref rv16, .int (nI 0)])), (ra16, .inl (cI, 16, .inl (fun _ => 0))), (rb16, .inl (cI, 16, .inl (fun _ => 0))), (rv16, .inl (cJ, 16, .inr (.inl (fun _ => 0)))), (q_17, .inr (2, [.ref ra20, .ref rb20, .ref rv20, .int (nI 0)])), (ra20, .inl (cI, 16, .inl (fun _ => 0))), (rb20, .inl (cI, 16, .inl (fun _ => 0))), (rv20, .inl (cJ, 16, .inr (.inl (fun _ => 0)))), (q_21, .inr (2, [.null, .null, .null, .int (nI 0)]))] H := hP
  have hD : va_D A [(y, .inr (3, [.ref q_1, .ref q_5, .ref q_9, .ref q_13, .ref q_17, .null, .null, .null, .int (nI 0), .int (nI 0)])), (q_1, .inr (2, [.ref ra4, .ref rb4, .ref rv4, .int (nI 0)])), (ra4, .inl (cI, 16, .inl (fun _ => 0))), (rb4, .inl (cI, 16, .inl (fun _ => 0))), (rv4, .inl (cJ, 16, .inr (.inl (fun _ => 0)))), (q_5, .inr (2, [.ref ra8, .ref rb8, .ref rv8, .int (nI 0)])), (ra8, .inl (cI, 16, .inl (fun _ => 0))), (rb8, .inl (cI, 16, .inl (fun _ => 0))), (rv8, .inl (cJ, 16, .inr (.inl (fun _ => 0)))), (q_9, .inr (2, [.ref ra12, .ref rb12, .ref rv12, .int (nI 0)])), (ra12, .inl (cI, 16, .inl (fun _ => 0))), (rb12, .inl (cI, 16, .inl (fun _ => 0))), (rv12, .inl (cJ, 16, .inr (.inl (fun _ => 0)))), (q_13, .inr (2, [.ref ra16, .ref rb16, .ref rv16, .int (nI 0)])), (ra16, .inl (cI, 16, .inl (fun _ => 0))), (rb16, .inl (cI, 16, .inl (fun _ => 0))), (rv16, .inl (cJ, 16, .inr (.inl (fun _ => 0)))), (q_17, .inr (2, [.ref ra20, .ref rb20, .ref rv20, .int (nI 0)])), (ra20, .inl (cI, 16, .inl (fun _ => 0))), (rb20, .inl (cI, 16, .inl (fun _ => 0))), (rv20, .inl (cJ, 16, .inr (.inl (fun _ => 0)))), (q_21, .inr (2, [.null, .null, .null, .int (nI 0)]))] := hD
  refine lv_dup hx hb dX3_init_63 rfl ?_
  have hFc := va_free (wc := [(q_21, .inr (2, [.null, .null, .null, .int (nI 0)]))]) hD hS hA [21] rfl
  refine va_callv (va_runIN (As := []) (rest := [.ref q_21, .ref y]) ⟨hx, hb, hml, hown, hts⟩ (c_X2_init l D cI cJ q_21 H.size) ⟨va_cnB 0 hts gX3_init_X2_init_n9 rfl rfl rfl hnw lk6 (by decide +kernel) ⟨Nat.le_of_ble_eq_true rfl, Nat.le_of_ble_eq_true rfl⟩, rfl, lk7⟩ (z_preSw hK hP hD [21] (by decide) rfl rfl) rfl rfl hl.1 rfl (lv_room (Nat.le_of_ble_eq_true rfl)) dX3_init_64 ⟨by show _ ≤ 26; omega, by show _ ≤ 516; omega⟩) hS (fun q _ h => hFc q h) hFc (fun u_23 t H1 locs ht hvm hr_22 hB hzz1 hkk1 hS => ?_)
  obtain ⟨ra24, rb24, rv24⟩ := u_23
  obtain ⟨hP1, hK1, hD1⟩ := hB
  rw [ht] at hP1
  try dsimp only at hr_22
  obtain ⟨hP, hD⟩ := va_join (wr := [(y, .inr (3, [.ref q_1, .ref q_5, .ref q_9, .ref q_13, .ref q_17, .null, .null, .null, .int (nI 0), .int (nI 0)])), (q_1, .inr (2, [.ref ra4, .ref rb4, .ref rv4, .int (nI 0)])), (ra4, .inl (cI, 16, .inl (fun _ => 0))), (rb4, .inl (cI, 16, .inl (fun _ => 0))), (rv4, .inl (cJ, 16, .inr (.inl (fun _ => 0)))), (q_5, .inr (2, [.ref ra8, .ref rb8, .ref rv8, .int (nI 0)])), (ra8, .inl (cI, 16, .inl (fun _ => 0))), (rb8, .inl (cI, 16, .inl (fun _ => 0))), (rv8, .inl (cJ, 16, .inr (.inl (fun _ => 0)))), (q_9, .inr (2, [.ref ra12, .ref rb12, .ref rv12, .int (nI 0)])), (ra12, .inl (cI, 16, .inl (fun _ => 0))), (rb12, .inl (cI, 16, .inl (fun _ => 0))), (rv12, .inl (cJ, 16, .inr (.inl (fun _ => 0)))), (q_13, .inr (2, [.ref ra16, .ref rb16, .ref rv16, .int (nI 0)])), (ra16, .inl (cI, 16, .inl (fun _ => 0))), (rb16, .inl (cI, 16, .inl (fun _ => 0))), (rv16, .inl (cJ, 16, .inr (.inl (fun _ => 0)))), (q_17, .inr (2, [.ref ra20, .ref rb20, .ref rv20, .int (nI 0)])), (ra20, .inl (cI, 16, .inl (fun _ => 0))), (rb20, .inl (cI, 16, .inl (fun _ => 0))), (rv20, .inl (cJ, 16, .inr (.inl (fun _ => 0))))]) (w1 := [(q_21, .inr (2, [.ref ra24, .ref rb24, .ref rv24, .int (nI 0)])), (ra24, .inl (cI, 16, .inl (fun _ => 0))), (rb24, .inl (cI, 16, .inl (fun _ => 0))), (rv24, .inl (cJ, 16, .inr (.inl (fun _ => 0))))]) hP hD [21] [0, 1, 2, 3, 4, 5, 6, 7, 8, 9, 10, 11, 12, 13, 14, 15, 16, 17, 18, 19, 20] rfl rfl (by decide) (by decide) hkk1 hFc hP1 hD1
  generalize H1 = H at hP hS ⊢
  have hP : va_P D vwCl [(y, .inr (3, [.ref q_1, .ref q_5, .ref q_9, .ref q_13, .ref q_17, .null, .null, .null, .int (nI 0), .int (nI 0)])), (q_1, .inr (2, [.ref ra4, .ref rb4, .ref rv4, .int (nI 0)])), (ra4, .inl (cI, 16, .inl (fun _ => 0))), (rb4, .inl (cI, 16, .inl (fun _ => 0))), (rv4, .inl (cJ, 16, .inr (.inl (fun _ => 0)))), (q_5, .inr (2, [.ref ra8, .ref rb8, .ref rv8, .int (nI 0)])), (ra8, .inl (cI, 16, .inl (fun _ => 0))), (rb8, .inl (cI, 16, .inl (fun _ => 0))), (rv8, .inl (cJ, 16, .inr (.inl (fun _ => 0)))), (q_9, .inr (2, [.ref ra12, .ref rb12, .ref rv12, .int (nI 0)])), (ra12, .inl (cI, 16, .inl (fun _ => 0))), (rb12, .inl (cI, 16, .inl (fun _ => 0))), (rv12, .inl (cJ, 16, .inr (.inl (fun _ => 0)))), (q_13, .inr (2, [.ref ra16, .ref rb16, .ref rv16, .int (nI 0)])), (ra16, .inl (cI, 16, .inl (fun _ => 0))), (rb16, .inl (cI, 16, .inl (fun _ => 0))), (rv16, .inl (cJ, 16, .inr (.inl (fun _ => 0)))), (q_17, .inr (2, [.ref ra20, .ref rb20, .ref rv20, .int (nI 0)])), (ra20, .inl (cI, 16, .inl (fun _ => 0))), (rb20, .inl (cI, 16, .inl (fun _ => 0))), (rv20, .inl (cJ, 16, .inr (.inl (fun _ => 0)))), (q_21, .inr (2, [.ref ra24, .ref rb24, .ref rv24, .int (nI 0)])), (ra24, .inl (cI, 16, .inl (fun _ => 0))), (rb24, .inl (cI, 16, .inl (fun _ => 0))), (rv24, .inl (cJ, 16, .inr (.inl (fun _ => 0))))] H := hP.sub [0, 1, 2, 3, 4, 5, 6, 7, 8, 9, 10, 11, 12, 13, 14, 15, 16, 17, 18, 19, 20, 21, 22, 23, 24] rfl
  have hD : va_D A [(y, .inr (3, [.ref q_1, .ref q_5, .ref q_9, .ref q_13, .ref q_17, .null, .null, .null, .int (nI 0), .int (nI 0)])), (q_1, .inr (2, [.ref ra4, .ref rb4, .ref rv4, .int (nI 0)])), (ra4, .inl (cI, 16, .inl (fun _ => 0))), (rb4, .inl (cI, 16, .inl (fun _ => 0))), (rv4, .inl (cJ, 16, .inr (.inl (fun _ => 0)))), (q_5, .inr (2, [.ref ra8, .ref rb8, .ref rv8, .int (nI 0)])), (ra8, .inl (cI, 16, .inl (fun _ => 0))), (rb8, .inl (cI, 16, .inl (fun _ => 0))), (rv8, .inl (cJ, 16, .inr (.inl (fun _ => 0)))), (q_9, .inr (2, [.ref ra12, .ref rb12, .ref rv12, .int (nI 0)])), (ra12, .inl (cI, 16, .inl (fun _ => 0))), (rb12, .inl (cI, 16, .inl (fun _ => 0))), (rv12, .inl (cJ, 16, .inr (.inl (fun _ => 0)))), (q_13, .inr (2, [.ref ra16, .ref rb16, .ref rv16, .int (nI 0)])), (ra16, .inl (cI, 16, .inl (fun _ => 0))), (rb16, .inl (cI, 16, .inl (fun _ => 0))), (rv16, .inl (cJ, 16, .inr (.inl (fun _ => 0)))), (q_17, .inr (2, [.ref ra20, .ref rb20, .ref rv20, .int (nI 0)])), (ra20, .inl (cI, 16, .inl (fun _ => 0))), (rb20, .inl (cI, 16, .inl (fun _ => 0))), (rv20, .inl (cJ, 16, .inr (.inl (fun _ => 0)))), (q_21, .inr (2, [.ref ra24, .ref rb24, .ref rv24, .int (nI 0)])), (ra24, .inl (cI, 16, .inl (fun _ => 0))), (rb24, .inl (cI, 16, .inl (fun _ => 0))), (rv24, .inl (cJ, 16, .inr (.inl (fun _ => 0))))] := hD.sub [0, 1, 2, 3, 4, 5, 6, 7, 8, 9, 10, 11, 12, 13, 14, 15, 16, 17, 18, 19, 20, 21, 22, 23, 24] (by decide) rfl
  refine va_putF (D := D) (ci := 3) (v := .ref q_21) (ty := .object "KeyHallModel$Rows") (C := RX3) (T := TX3) (N := 10) hx hb hts lk9 tyX3 tyX3_ok nmX3 hown hK hP hD hS 0 rfl rfl 5 (by decide) lk14 (fun _ h9 => h9) rfl hin rfl (by decide +kernel) rfl rfl (Nat.le_of_ble_eq_true rfl) dX3_init_67 (fun H locs hP hD hS => ?_)
  have hP : va_P D vwCl [(y, .inr (3, [.ref q_1, .ref q_5, .ref q_9, .ref q_13, .ref q_17, .ref q_21, .null, .null, .int (nI 0), .int (nI 0)])), (q_1, .inr (2, [.ref ra4, .ref rb4, .ref rv4, .int (nI 0)])), (ra4, .inl (cI, 16, .inl (fun _ => 0))), (rb4, .inl (cI, 16, .inl (fun _ => 0))), (rv4, .inl (cJ, 16, .inr (.inl (fun _ => 0)))), (q_5, .inr (2, [.ref ra8, .ref rb8, .ref rv8, .int (nI 0)])), (ra8, .inl (cI, 16, .inl (fun _ => 0))), (rb8, .inl (cI, 16, .inl (fun _ => 0))), (rv8, .inl (cJ, 16, .inr (.inl (fun _ => 0)))), (q_9, .inr (2, [.ref ra12, .ref rb12, .ref rv12, .int (nI 0)])), (ra12, .inl (cI, 16, .inl (fun _ => 0))), (rb12, .inl (cI, 16, .inl (fun _ => 0))), (rv12, .inl (cJ, 16, .inr (.inl (fun _ => 0)))), (q_13, .inr (2, [.ref ra16, .ref rb16, .ref rv16, .int (nI 0)])), (ra16, .inl (cI, 16, .inl (fun _ => 0))), (rb16, .inl (cI, 16, .inl (fun _ => 0))), (rv16, .inl (cJ, 16, .inr (.inl (fun _ => 0)))), (q_17, .inr (2, [.ref ra20, .ref rb20, .ref rv20, .int (nI 0)])), (ra20, .inl (cI, 16, .inl (fun _ => 0))), (rb20, .inl (cI, 16, .inl (fun _ => 0))), (rv20, .inl (cJ, 16, .inr (.inl (fun _ => 0)))), (q_21, .inr (2, [.ref ra24, .ref rb24, .ref rv24, .int (nI 0)])), (ra24, .inl (cI, 16, .inl (fun _ => 0))), (rb24, .inl (cI, 16, .inl (fun _ => 0))), (rv24, .inl (cJ, 16, .inr (.inl (fun _ => 0))))] H := hP
  have hD : va_D A [(y, .inr (3, [.ref q_1, .ref q_5, .ref q_9, .ref q_13, .ref q_17, .ref q_21, .null, .null, .int (nI 0), .int (nI 0)])), (q_1, .inr (2, [.ref ra4, .ref rb4, .ref rv4, .int (nI 0)])), (ra4, .inl (cI, 16, .inl (fun _ => 0))), (rb4, .inl (cI, 16, .inl (fun _ => 0))), (rv4, .inl (cJ, 16, .inr (.inl (fun _ => 0)))), (q_5, .inr (2, [.ref ra8, .ref rb8, .ref rv8, .int (nI 0)])), (ra8, .inl (cI, 16, .inl (fun _ => 0))), (rb8, .inl (cI, 16, .inl (fun _ => 0))), (rv8, .inl (cJ, 16, .inr (.inl (fun _ => 0)))), (q_9, .inr (2, [.ref ra12, .ref rb12, .ref rv12, .int (nI 0)])), (ra12, .inl (cI, 16, .inl (fun _ => 0))), (rb12, .inl (cI, 16, .inl (fun _ => 0))), (rv12, .inl (cJ, 16, .inr (.inl (fun _ => 0)))), (q_13, .inr (2, [.ref ra16, .ref rb16, .ref rv16, .int (nI 0)])), (ra16, .inl (cI, 16, .inl (fun _ => 0))), (rb16, .inl (cI, 16, .inl (fun _ => 0))), (rv16, .inl (cJ, 16, .inr (.inl (fun _ => 0)))), (q_17, .inr (2, [.ref ra20, .ref rb20, .ref rv20, .int (nI 0)])), (ra20, .inl (cI, 16, .inl (fun _ => 0))), (rb20, .inl (cI, 16, .inl (fun _ => 0))), (rv20, .inl (cJ, 16, .inr (.inl (fun _ => 0)))), (q_21, .inr (2, [.ref ra24, .ref rb24, .ref rv24, .int (nI 0)])), (ra24, .inl (cI, 16, .inl (fun _ => 0))), (rb24, .inl (cI, 16, .inl (fun _ => 0))), (rv24, .inl (cJ, 16, .inr (.inl (fun _ => 0))))] := hD
  refine lv_aload_n hx hb dX3_init_70 rfl (lv_at hl 0 rfl) ?_
  refine lv_sipush (v := nI 192) hx hb dX3_init_71 (by decide) ?_
  refine z_newI (N := 192) hx hb lk15 hK hP hD hS hA (by omega) (by show _ ≤ 26; omega) (by show _ ≤ 516; omega) dX3_init_74 (fun q_25 H hP hD hS => ?_)
  have hP : va_P D vwCl [(y, .inr (3, [.ref q_1, .ref q_5, .ref q_9, .ref q_13, .ref q_17, .ref q_21, .null, .null, .int (nI 0), .int (nI 0)])), (q_1, .inr (2, [.ref ra4, .ref rb4, .ref rv4, .int (nI 0)])), (ra4, .inl (cI, 16, .inl (fun _ => 0))), (rb4, .inl (cI, 16, .inl (fun _ => 0))), (rv4, .inl (cJ, 16, .inr (.inl (fun _ => 0)))), (q_5, .inr (2, [.ref ra8, .ref rb8, .ref rv8, .int (nI 0)])), (ra8, .inl (cI, 16, .inl (fun _ => 0))), (rb8, .inl (cI, 16, .inl (fun _ => 0))), (rv8, .inl (cJ, 16, .inr (.inl (fun _ => 0)))), (q_9, .inr (2, [.ref ra12, .ref rb12, .ref rv12, .int (nI 0)])), (ra12, .inl (cI, 16, .inl (fun _ => 0))), (rb12, .inl (cI, 16, .inl (fun _ => 0))), (rv12, .inl (cJ, 16, .inr (.inl (fun _ => 0)))), (q_13, .inr (2, [.ref ra16, .ref rb16, .ref rv16, .int (nI 0)])), (ra16, .inl (cI, 16, .inl (fun _ => 0))), (rb16, .inl (cI, 16, .inl (fun _ => 0))), (rv16, .inl (cJ, 16, .inr (.inl (fun _ => 0)))), (q_17, .inr (2, [.ref ra20, .ref rb20, .ref rv20, .int (nI 0)])), (ra20, .inl (cI, 16, .inl (fun _ => 0))), (rb20, .inl (cI, 16, .inl (fun _ => 0))), (rv20, .inl (cJ, 16, .inr (.inl (fun _ => 0)))), (q_21, .inr (2, [.ref ra24, .ref rb24, .ref rv24, .int (nI 0)])), (ra24, .inl (cI, 16, .inl (fun _ => 0))), (rb24, .inl (cI, 16, .inl (fun _ => 0))), (rv24, .inl (cJ, 16, .inr (.inl (fun _ => 0)))), (q_25, .inl (cI, 192, .inl (fun _ => 0)))] H := hP
  have hD : va_D A [(y, .inr (3, [.ref q_1, .ref q_5, .ref q_9, .ref q_13, .ref q_17, .ref q_21, .null, .null, .int (nI 0), .int (nI 0)])), (q_1, .inr (2, [.ref ra4, .ref rb4, .ref rv4, .int (nI 0)])), (ra4, .inl (cI, 16, .inl (fun _ => 0))), (rb4, .inl (cI, 16, .inl (fun _ => 0))), (rv4, .inl (cJ, 16, .inr (.inl (fun _ => 0)))), (q_5, .inr (2, [.ref ra8, .ref rb8, .ref rv8, .int (nI 0)])), (ra8, .inl (cI, 16, .inl (fun _ => 0))), (rb8, .inl (cI, 16, .inl (fun _ => 0))), (rv8, .inl (cJ, 16, .inr (.inl (fun _ => 0)))), (q_9, .inr (2, [.ref ra12, .ref rb12, .ref rv12, .int (nI 0)])), (ra12, .inl (cI, 16, .inl (fun _ => 0))), (rb12, .inl (cI, 16, .inl (fun _ => 0))), (rv12, .inl (cJ, 16, .inr (.inl (fun _ => 0)))), (q_13, .inr (2, [.ref ra16, .ref rb16, .ref rv16, .int (nI 0)])), (ra16, .inl (cI, 16, .inl (fun _ => 0))), (rb16, .inl (cI, 16, .inl (fun _ => 0))), (rv16, .inl (cJ, 16, .inr (.inl (fun _ => 0)))), (q_17, .inr (2, [.ref ra20, .ref rb20, .ref rv20, .int (nI 0)])), (ra20, .inl (cI, 16, .inl (fun _ => 0))), (rb20, .inl (cI, 16, .inl (fun _ => 0))), (rv20, .inl (cJ, 16, .inr (.inl (fun _ => 0)))), (q_21, .inr (2, [.ref ra24, .ref rb24, .ref rv24, .int (nI 0)])), (ra24, .inl (cI, 16, .inl (fun _ => 0))), (rb24, .inl (cI, 16, .inl (fun _ => 0))), (rv24, .inl (cJ, 16, .inr (.inl (fun _ => 0)))), (q_25, .inl (cI, 192, .inl (fun _ => 0)))] := hD
  refine va_put (D := D) (ci := 3) (v := .ref q_25) (ty := .array .int) (C := RX3) (T := TX3) (N := 10) hx hb hts lk9 tyX3 tyX3_ok nmX3 hown hK hP hD hS 0 rfl rfl 6 (by decide) lk16 (fun _ h9 => h9) rfl (by decide +kernel) rfl rfl (Nat.le_of_ble_eq_true rfl) dX3_init_76 (fun H locs hP hD hS => ?_)
  have hP : va_P D vwCl [(y, .inr (3, [.ref q_1, .ref q_5, .ref q_9, .ref q_13, .ref q_17, .ref q_21, .ref q_25, .null, .int (nI 0), .int (nI 0)])), (q_1, .inr (2, [.ref ra4, .ref rb4, .ref rv4, .int (nI 0)])), (ra4, .inl (cI, 16, .inl (fun _ => 0))), (rb4, .inl (cI, 16, .inl (fun _ => 0))), (rv4, .inl (cJ, 16, .inr (.inl (fun _ => 0)))), (q_5, .inr (2, [.ref ra8, .ref rb8, .ref rv8, .int (nI 0)])), (ra8, .inl (cI, 16, .inl (fun _ => 0))), (rb8, .inl (cI, 16, .inl (fun _ => 0))), (rv8, .inl (cJ, 16, .inr (.inl (fun _ => 0)))), (q_9, .inr (2, [.ref ra12, .ref rb12, .ref rv12, .int (nI 0)])), (ra12, .inl (cI, 16, .inl (fun _ => 0))), (rb12, .inl (cI, 16, .inl (fun _ => 0))), (rv12, .inl (cJ, 16, .inr (.inl (fun _ => 0)))), (q_13, .inr (2, [.ref ra16, .ref rb16, .ref rv16, .int (nI 0)])), (ra16, .inl (cI, 16, .inl (fun _ => 0))), (rb16, .inl (cI, 16, .inl (fun _ => 0))), (rv16, .inl (cJ, 16, .inr (.inl (fun _ => 0)))), (q_17, .inr (2, [.ref ra20, .ref rb20, .ref rv20, .int (nI 0)])), (ra20, .inl (cI, 16, .inl (fun _ => 0))), (rb20, .inl (cI, 16, .inl (fun _ => 0))), (rv20, .inl (cJ, 16, .inr (.inl (fun _ => 0)))), (q_21, .inr (2, [.ref ra24, .ref rb24, .ref rv24, .int (nI 0)])), (ra24, .inl (cI, 16, .inl (fun _ => 0))), (rb24, .inl (cI, 16, .inl (fun _ => 0))), (rv24, .inl (cJ, 16, .inr (.inl (fun _ => 0)))), (q_25, .inl (cI, 192, .inl (fun _ => 0)))] H := hP
  have hD : va_D A [(y, .inr (3, [.ref q_1, .ref q_5, .ref q_9, .ref q_13, .ref q_17, .ref q_21, .ref q_25, .null, .int (nI 0), .int (nI 0)])), (q_1, .inr (2, [.ref ra4, .ref rb4, .ref rv4, .int (nI 0)])), (ra4, .inl (cI, 16, .inl (fun _ => 0))), (rb4, .inl (cI, 16, .inl (fun _ => 0))), (rv4, .inl (cJ, 16, .inr (.inl (fun _ => 0)))), (q_5, .inr (2, [.ref ra8, .ref rb8, .ref rv8, .int (nI 0)])), (ra8, .inl (cI, 16, .inl (fun _ => 0))), (rb8, .inl (cI, 16, .inl (fun _ => 0))), (rv8, .inl (cJ, 16, .inr (.inl (fun _ => 0)))), (q_9, .inr (2, [.ref ra12, .ref rb12, .ref rv12, .int (nI 0)])), (ra12, .inl (cI, 16, .inl (fun _ => 0))), (rb12, .inl (cI, 16, .inl (fun _ => 0))), (rv12, .inl (cJ, 16, .inr (.inl (fun _ => 0)))), (q_13, .inr (2, [.ref ra16, .ref rb16, .ref rv16, .int (nI 0)])), (ra16, .inl (cI, 16, .inl (fun _ => 0))), (rb16, .inl (cI, 16, .inl (fun _ => 0))), (rv16, .inl (cJ, 16, .inr (.inl (fun _ => 0)))), (q_17, .inr (2, [.ref ra20, .ref rb20, .ref rv20, .int (nI 0)])), (ra20, .inl (cI, 16, .inl (fun _ => 0))), (rb20, .inl (cI, 16, .inl (fun _ => 0))), (rv20, .inl (cJ, 16, .inr (.inl (fun _ => 0)))), (q_21, .inr (2, [.ref ra24, .ref rb24, .ref rv24, .int (nI 0)])), (ra24, .inl (cI, 16, .inl (fun _ => 0))), (rb24, .inl (cI, 16, .inl (fun _ => 0))), (rv24, .inl (cJ, 16, .inr (.inl (fun _ => 0)))), (q_25, .inl (cI, 192, .inl (fun _ => 0)))] := hD
  refine lv_aload_n hx hb dX3_init_79 rfl (lv_at hl 0 rfl) ?_
  refine lv_bipush (v := nI 12) hx hb dX3_init_80 (by decide) ?_
  refine z_newI (N := 12) hx hb lk15 hK hP hD hS hA (by omega) (by show _ ≤ 26; omega) (by show _ ≤ 516; omega) dX3_init_82 (fun q_26 H hP hD hS => ?_)
  have hP : va_P D vwCl [(y, .inr (3, [.ref q_1, .ref q_5, .ref q_9, .ref q_13, .ref q_17, .ref q_21, .ref q_25, .null, .int (nI 0), .int (nI 0)])), (q_1, .inr (2, [.ref ra4, .ref rb4, .ref rv4, .int (nI 0)])), (ra4, .inl (cI, 16, .inl (fun _ => 0))), (rb4, .inl (cI, 16, .inl (fun _ => 0))), (rv4, .inl (cJ, 16, .inr (.inl (fun _ => 0)))), (q_5, .inr (2, [.ref ra8, .ref rb8, .ref rv8, .int (nI 0)])), (ra8, .inl (cI, 16, .inl (fun _ => 0))), (rb8, .inl (cI, 16, .inl (fun _ => 0))), (rv8, .inl (cJ, 16, .inr (.inl (fun _ => 0)))), (q_9, .inr (2, [.ref ra12, .ref rb12, .ref rv12, .int (nI 0)])), (ra12, .inl (cI, 16, .inl (fun _ => 0))), (rb12, .inl (cI, 16, .inl (fun _ => 0))), (rv12, .inl (cJ, 16, .inr (.inl (fun _ => 0)))), (q_13, .inr (2, [.ref ra16, .ref rb16, .ref rv16, .int (nI 0)])), (ra16, .inl (cI, 16, .inl (fun _ => 0))), (rb16, .inl (cI, 16, .inl (fun _ => 0))), (rv16, .inl (cJ, 16, .inr (.inl (fun _ => 0)))), (q_17, .inr (2, [.ref ra20, .ref rb20, .ref rv20, .int (nI 0)])), (ra20, .inl (cI, 16, .inl (fun _ => 0))), (rb20, .inl (cI, 16, .inl (fun _ => 0))), (rv20, .inl (cJ, 16, .inr (.inl (fun _ => 0)))), (q_21, .inr (2, [.ref ra24, .ref rb24, .ref rv24, .int (nI 0)])), (ra24, .inl (cI, 16, .inl (fun _ => 0))), (rb24, .inl (cI, 16, .inl (fun _ => 0))), (rv24, .inl (cJ, 16, .inr (.inl (fun _ => 0)))), (q_25, .inl (cI, 192, .inl (fun _ => 0))), (q_26, .inl (cI, 12, .inl (fun _ => 0)))] H := hP
  have hD : va_D A [(y, .inr (3, [.ref q_1, .ref q_5, .ref q_9, .ref q_13, .ref q_17, .ref q_21, .ref q_25, .null, .int (nI 0), .int (nI 0)])), (q_1, .inr (2, [.ref ra4, .ref rb4, .ref rv4, .int (nI 0)])), (ra4, .inl (cI, 16, .inl (fun _ => 0))), (rb4, .inl (cI, 16, .inl (fun _ => 0))), (rv4, .inl (cJ, 16, .inr (.inl (fun _ => 0)))), (q_5, .inr (2, [.ref ra8, .ref rb8, .ref rv8, .int (nI 0)])), (ra8, .inl (cI, 16, .inl (fun _ => 0))), (rb8, .inl (cI, 16, .inl (fun _ => 0))), (rv8, .inl (cJ, 16, .inr (.inl (fun _ => 0)))), (q_9, .inr (2, [.ref ra12, .ref rb12, .ref rv12, .int (nI 0)])), (ra12, .inl (cI, 16, .inl (fun _ => 0))), (rb12, .inl (cI, 16, .inl (fun _ => 0))), (rv12, .inl (cJ, 16, .inr (.inl (fun _ => 0)))), (q_13, .inr (2, [.ref ra16, .ref rb16, .ref rv16, .int (nI 0)])), (ra16, .inl (cI, 16, .inl (fun _ => 0))), (rb16, .inl (cI, 16, .inl (fun _ => 0))), (rv16, .inl (cJ, 16, .inr (.inl (fun _ => 0)))), (q_17, .inr (2, [.ref ra20, .ref rb20, .ref rv20, .int (nI 0)])), (ra20, .inl (cI, 16, .inl (fun _ => 0))), (rb20, .inl (cI, 16, .inl (fun _ => 0))), (rv20, .inl (cJ, 16, .inr (.inl (fun _ => 0)))), (q_21, .inr (2, [.ref ra24, .ref rb24, .ref rv24, .int (nI 0)])), (ra24, .inl (cI, 16, .inl (fun _ => 0))), (rb24, .inl (cI, 16, .inl (fun _ => 0))), (rv24, .inl (cJ, 16, .inr (.inl (fun _ => 0)))), (q_25, .inl (cI, 192, .inl (fun _ => 0))), (q_26, .inl (cI, 12, .inl (fun _ => 0)))] := hD
  refine va_putF (D := D) (ci := 3) (v := .ref q_26) (ty := .array .int) (C := RX3) (T := TX3) (N := 10) hx hb hts lk9 tyX3 tyX3_ok nmX3 hown hK hP hD hS 0 rfl rfl 7 (by decide) lk17 (fun _ h9 => h9) rfl hin rfl (by decide +kernel) rfl rfl (Nat.le_of_ble_eq_true rfl) dX3_init_84 (fun H locs hP hD hS => ?_)
  have hP : va_P D vwCl [(y, .inr (3, [.ref q_1, .ref q_5, .ref q_9, .ref q_13, .ref q_17, .ref q_21, .ref q_25, .ref q_26, .int (nI 0), .int (nI 0)])), (q_1, .inr (2, [.ref ra4, .ref rb4, .ref rv4, .int (nI 0)])), (ra4, .inl (cI, 16, .inl (fun _ => 0))), (rb4, .inl (cI, 16, .inl (fun _ => 0))), (rv4, .inl (cJ, 16, .inr (.inl (fun _ => 0)))), (q_5, .inr (2, [.ref ra8, .ref rb8, .ref rv8, .int (nI 0)])), (ra8, .inl (cI, 16, .inl (fun _ => 0))), (rb8, .inl (cI, 16, .inl (fun _ => 0))), (rv8, .inl (cJ, 16, .inr (.inl (fun _ => 0)))), (q_9, .inr (2, [.ref ra12, .ref rb12, .ref rv12, .int (nI 0)])), (ra12, .inl (cI, 16, .inl (fun _ => 0))), (rb12, .inl (cI, 16, .inl (fun _ => 0))), (rv12, .inl (cJ, 16, .inr (.inl (fun _ => 0)))), (q_13, .inr (2, [.ref ra16, .ref rb16, .ref rv16, .int (nI 0)])), (ra16, .inl (cI, 16, .inl (fun _ => 0))), (rb16, .inl (cI, 16, .inl (fun _ => 0))), (rv16, .inl (cJ, 16, .inr (.inl (fun _ => 0)))), (q_17, .inr (2, [.ref ra20, .ref rb20, .ref rv20, .int (nI 0)])), (ra20, .inl (cI, 16, .inl (fun _ => 0))), (rb20, .inl (cI, 16, .inl (fun _ => 0))), (rv20, .inl (cJ, 16, .inr (.inl (fun _ => 0)))), (q_21, .inr (2, [.ref ra24, .ref rb24, .ref rv24, .int (nI 0)])), (ra24, .inl (cI, 16, .inl (fun _ => 0))), (rb24, .inl (cI, 16, .inl (fun _ => 0))), (rv24, .inl (cJ, 16, .inr (.inl (fun _ => 0)))), (q_25, .inl (cI, 192, .inl (fun _ => 0))), (q_26, .inl (cI, 12, .inl (fun _ => 0)))] H := hP
  have hD : va_D A [(y, .inr (3, [.ref q_1, .ref q_5, .ref q_9, .ref q_13, .ref q_17, .ref q_21, .ref q_25, .ref q_26, .int (nI 0), .int (nI 0)])), (q_1, .inr (2, [.ref ra4, .ref rb4, .ref rv4, .int (nI 0)])), (ra4, .inl (cI, 16, .inl (fun _ => 0))), (rb4, .inl (cI, 16, .inl (fun _ => 0))), (rv4, .inl (cJ, 16, .inr (.inl (fun _ => 0)))), (q_5, .inr (2, [.ref ra8, .ref rb8, .ref rv8, .int (nI 0)])), (ra8, .inl (cI, 16, .inl (fun _ => 0))), (rb8, .inl (cI, 16, .inl (fun _ => 0))), (rv8, .inl (cJ, 16, .inr (.inl (fun _ => 0)))), (q_9, .inr (2, [.ref ra12, .ref rb12, .ref rv12, .int (nI 0)])), (ra12, .inl (cI, 16, .inl (fun _ => 0))), (rb12, .inl (cI, 16, .inl (fun _ => 0))), (rv12, .inl (cJ, 16, .inr (.inl (fun _ => 0)))), (q_13, .inr (2, [.ref ra16, .ref rb16, .ref rv16, .int (nI 0)])), (ra16, .inl (cI, 16, .inl (fun _ => 0))), (rb16, .inl (cI, 16, .inl (fun _ => 0))), (rv16, .inl (cJ, 16, .inr (.inl (fun _ => 0)))), (q_17, .inr (2, [.ref ra20, .ref rb20, .ref rv20, .int (nI 0)])), (ra20, .inl (cI, 16, .inl (fun _ => 0))), (rb20, .inl (cI, 16, .inl (fun _ => 0))), (rv20, .inl (cJ, 16, .inr (.inl (fun _ => 0)))), (q_21, .inr (2, [.ref ra24, .ref rb24, .ref rv24, .int (nI 0)])), (ra24, .inl (cI, 16, .inl (fun _ => 0))), (rb24, .inl (cI, 16, .inl (fun _ => 0))), (rv24, .inl (cJ, 16, .inr (.inl (fun _ => 0)))), (q_25, .inl (cI, 192, .inl (fun _ => 0))), (q_26, .inl (cI, 12, .inl (fun _ => 0)))] := hD
  refine W.widen (k := 26) (n := 516) (by omega) (by omega) ?_
  exact W.vret hx hb hr (fun t ht hW => ⟨⟨(q_1, ra4, rb4, rv4, q_5, ra8, rb8, rv8, q_9, ra12, rb12, rv12, q_13, ra16, rb16, rv16, q_17, ra20, rb20, rv20, q_21, ra24, rb24, rv24, q_25, q_26), rfl, trivial, by rw [ht]; exact (hP.sub [0, 25, 26, 1, 2, 3, 4, 5, 6, 7, 8, 9, 10, 11, 12, 13, 14, 15, 16, 17, 18, 19, 20, 21, 22, 23, 24] rfl), va_K.moved hW.alike hK, (hD.sub [0, 25, 26, 1, 2, 3, 4, 5, 6, 7, 8, 9, 10, 11, 12, 13, 14, 15, 16, 17, 18, 19, 20, 21, 22, 23, 24] (by decide) rfl)⟩, hS.F ht⟩) hS.2.2 dX3_init_87

set_option maxHeartbeats 4000000 in
set_option maxRecDepth 100000 in
theorem c_X3_step (l : Launch) (D : va_G) (cI cJ : ClassId) (y r0 r1 r2 r3 r4 r5 wd tp wm tm : Nat) (a0 b0 v0 cap n : Nat) (fa fb : Nat → Int32) (fv : Nat → Int64) (hn : n ≤ cap) (hc : cap ≤ 1100) (h16 : 16 ≤ cap) (hn5 : n ≤ 549) (sz : Nat) : Met l yX3_step wsX3_step { frames := 2, cells := 2200, slots := 13300, locals := 48 } (va_Pc [.ref y] (nP D cI cJ [(y, .inr (3, [.ref r0, .ref r1, .ref r2, .ref r3, .ref r4, .ref r5, .ref wd, .ref tp, .int (nI wm), .int (nI tm)])), (r3, .inr (2, [.ref a0, .ref b0, .ref v0, .int (nI n)])), (a0, .inl (cI, cap, .inl fa)), (b0, .inl (cI, cap, .inl fb)), (v0, .inl (cJ, cap, .inr (.inl fv)))] sz)) (va_Qi (fun r (u : Nat × Nat × Nat × Nat × Nat × (Nat → Int32) × (Nat → Int32) × (Nat → Int64)) => match u with | (a', b', v', cap', n', fa', fb', fv') => ROK n' cap' ∧ ((60 < n ∧ r = (-1) ∧ (rl n' fa' fb' fv') = (rl n fa fb fv)) ∨ (n ≤ 60 ∧ r = nI n' ∧ (rl n' fa' fb' fv') = thn (rl n fa fb fv) fa fb (9 * n)))) (wB D cI cJ (va_A [(y, .inr (3, [.ref r0, .ref r1, .ref r2, .ref r3, .ref r4, .ref r5, .ref wd, .ref tp, .int (nI wm), .int (nI tm)])), (r3, .inr (2, [.ref a0, .ref b0, .ref v0, .int (nI n)])), (a0, .inl (cI, cap, .inl fa)), (b0, .inl (cI, cap, .inl fb)), (v0, .inl (cJ, cap, .inr (.inl fv)))] sz) (fun (a', b', v', cap', n', fa', fb', fv') => [(y, .inr (3, [.ref r0, .ref r1, .ref r2, .ref r3, .ref r4, .ref r5, .ref wd, .ref tp, .int (nI wm), .int (nI tm)])), (r3, .inr (2, [.ref a', .ref b', .ref v', .int (nI n')])), (a', .inl (cI, cap', .inl fa')), (b', .inl (cI, cap', .inl fb')), (v', .inl (cJ, cap', .inr (.inl fv')))])) (va_A [(y, .inr (3, [.ref r0, .ref r1, .ref r2, .ref r3, .ref r4, .ref r5, .ref wd, .ref tp, .int (nI wm), .int (nI tm)])), (r3, .inr (2, [.ref a0, .ref b0, .ref v0, .int (nI n)])), (a0, .inl (cI, cap, .inl fa)), (b0, .inl (cI, cap, .inl fb)), (v0, .inl (cJ, cap, .inr (.inl fv)))] sz)) 2200 13300 (va_A [(y, .inr (3, [.ref r0, .ref r1, .ref r2, .ref r3, .ref r4, .ref r5, .ref wd, .ref tp, .int (nI wm), .int (nI tm)])), (r3, .inr (2, [.ref a0, .ref b0, .ref v0, .int (nI n)])), (a0, .inl (cI, cap, .inl fa)), (b0, .inl (cI, cap, .inl fb)), (v0, .inl (cJ, cap, .inr (.inl fv)))] sz) := by
  refine Met.ofW (cc := cX3_step) (maxL := 8) (ret := (some .int)) (by decide) rfl ?_
  intro p e s m args below meth c s₁ B hml hv
  obtain ⟨rfl, ⟨hsz, hP, hK, hD0⟩, hnw⟩ := hv
  have hx := B.exec
  have hb := B.bytes
  have hr := B.returns
  have hts := atoms_spec (ws := wsX3_step) B.pre
  have hown : s.vm.findClass RX3 = some m.cls := findClass_of_methodNamed B.named
  have hlocks := B.notSynchronized
  have lk0 := hts (.fieldLink RX3 22 "KeyHallModel" "points" "LKeyHallModel$Rows;") (by decide +kernel)
  have lk1 : ∀ w ∈ wsX30, w ∈ wsX3_step := by decide +kernel
  have lk2 := hts (.fieldLink RX3 46 "KeyHallModel$Rows" "many" "I") (by decide +kernel)
  have lk3 : ∀ w ∈ wsX20, w ∈ wsX3_step := by decide +kernel
  have lk4 := hts (.classLink RX3 7 RX2) (by decide +kernel)
  have lk5 := hts (.instantiable RX2 4) (by decide +kernel)
  have lk6 := hts (.initialized RX2) (by decide +kernel)
  have lk7 := hts (.instanceMethod yX2_init) (by decide +kernel)
  have lk8 := hts (.fieldLink RX3 66 "KeyHallModel$Rows" "a" "[I") (by decide +kernel)
  have lk9 := hts (.fieldLink RX3 69 "KeyHallModel$Rows" "b" "[I") (by decide +kernel)
  subst hsz
  have hD := hD0.self (sz := s.heap.size)
  generalize hAe : va_A [(y, .inr (3, [.ref r0, .ref r1, .ref r2, .ref r3, .ref r4, .ref r5, .ref wd, .ref tp, .int (nI wm), .int (nI tm)])), (r3, .inr (2, [.ref a0, .ref b0, .ref v0, .int (nI n)])), (a0, .inl (cI, cap, .inl fa)), (b0, .inl (cI, cap, .inl fb)), (v0, .inl (cJ, cap, .inr (.inl fv)))] s.heap.size = A at hD ⊢
  have hA : ∀ q : Nat, s.heap.size ≤ q → A q := fun q h => by rw [← hAe]; exact Or.inr h
  have hS : va_S A s.heap s.heap [] := va_S.rf
  have hP : va_P D vwCl [(y, .inr (3, [.ref r0, .ref r1, .ref r2, .ref r3, .ref r4, .ref r5, .ref wd, .ref tp, .int (nI wm), .int (nI tm)])), (r3, .inr (2, [.ref a0, .ref b0, .ref v0, .int (nI n)])), (a0, .inl (cI, cap, .inl fa)), (b0, .inl (cI, cap, .inl fb)), (v0, .inl (cJ, cap, .inr (.inl fv)))] s.heap := hP
  have hl := lv_entry ([.ref y]) (n := 8) (Nat.le_of_ble_eq_true rfl)
  rw [lg_entry_eq]
  generalize (lg_sl ([.ref y]) ++ List.replicate (8 - (lg_sl ([.ref y])).length) Slot.unset).toArray = ls at hl ⊢
  have hl : lv_has ls 8 [(0, .ref y)] := hl
  refine lv_aload_n hx hb dX3_step_0 rfl (lv_at hl 0 rfl) ?_
  refine va_get (D := D) (ci := 3) (v := .ref r3) (C := RX3) (T := TX3) (N := 10) hx hb hts lk1 hown hK hP 0 rfl rfl 3 (by decide) lk0 (fun _ h9 => h9) rfl dX3_step_1 ?_
  refine va_get (D := D) (ci := 2) (v := .int (nI n)) (C := RX2) (T := TX2) (N := 4) hx hb hts lk3 hown hK hP 1 rfl rfl 3 (by decide) lk2 (fun _ h9 => h9) rfl dX3_step_4 ?_
  refine lv_bipush (v := nI 60) hx hb dX3_step_7 (by decide) ?_
  refine z_icmp_le (tgt := 14) hx hb dX3_step_9 (by decide) (by omega) (by omega) (fun c_9 => ?_) (fun c_9 => ?_)
  · refine va_new (ci := 2) (fs := [.null, .null, .null, .int (nI 0)]) (C := RX2) (T := TX2) (N := 4) hx hb hts lk3 tyX2 tyX2_ok hown lk4 lk5 lk6 hK hP hD hS hA rfl (by decide) (by show _ ≤ 2200; omega) (by show _ ≤ 13300; omega) dX3_step_14 (fun q_1 H hP hD hS => ?_)
    have hP : va_P D vwCl [(y, .inr (3, [.ref r0, .ref r1, .ref r2, .ref r3, .ref r4, .ref r5, .ref wd, .ref tp, .int (nI wm), .int (nI tm)])), (r3, .inr (2, [.ref a0, .ref b0, .ref v0, .int (nI n)])), (a0, .inl (cI, cap, .inl fa)), (b0, .inl (cI, cap, .inl fb)), (v0, .inl (cJ, cap, .inr (.inl fv))), (q_1, .inr (2, [.null, .null, .null, .int (nI 0)]))] H := hP
    have hD : va_D A [(y, .inr (3, [.ref r0, .ref r1, .ref r2, .ref r3, .ref r4, .ref r5, .ref wd, .ref tp, .int (nI wm), .int (nI tm)])), (r3, .inr (2, [.ref a0, .ref b0, .ref v0, .int (nI n)])), (a0, .inl (cI, cap, .inl fa)), (b0, .inl (cI, cap, .inl fb)), (v0, .inl (cJ, cap, .inr (.inl fv))), (q_1, .inr (2, [.null, .null, .null, .int (nI 0)]))] := hD
    refine lv_dup hx hb dX3_step_17 rfl ?_
    have hFc := va_free (wc := [(q_1, .inr (2, [.null, .null, .null, .int (nI 0)]))]) hD hS hA [5] rfl
    refine va_callv (va_runIN (As := []) (rest := [.ref q_1]) ⟨hx, hb, hml, hown, hts⟩ (c_X2_init l D cI cJ q_1 H.size) ⟨va_cnB 0 hts gX3_step_X2_init_n9 rfl rfl rfl hnw lk6 (by decide +kernel) ⟨Nat.le_of_ble_eq_true rfl, Nat.le_of_ble_eq_true rfl⟩, rfl, lk7⟩ (z_preSw hK hP hD [5] (by decide) rfl rfl) rfl rfl hl.1 rfl (lv_room (Nat.le_of_ble_eq_true rfl)) dX3_step_18 ⟨by show _ ≤ 2200; omega, by show _ ≤ 13300; omega⟩) hS (fun q _ h => hFc q h) hFc (fun u_3 t H1 locs ht hvm hr_2 hB hzz1 hkk1 hS => ?_)
    obtain ⟨ra4, rb4, rv4⟩ := u_3
    obtain ⟨hP1, hK1, hD1⟩ := hB
    rw [ht] at hP1
    try dsimp only at hr_2
    obtain ⟨hP, hD⟩ := va_join (wr := [(y, .inr (3, [.ref r0, .ref r1, .ref r2, .ref r3, .ref r4, .ref r5, .ref wd, .ref tp, .int (nI wm), .int (nI tm)])), (r3, .inr (2, [.ref a0, .ref b0, .ref v0, .int (nI n)])), (a0, .inl (cI, cap, .inl fa)), (b0, .inl (cI, cap, .inl fb)), (v0, .inl (cJ, cap, .inr (.inl fv)))]) (w1 := [(q_1, .inr (2, [.ref ra4, .ref rb4, .ref rv4, .int (nI 0)])), (ra4, .inl (cI, 16, .inl (fun _ => 0))), (rb4, .inl (cI, 16, .inl (fun _ => 0))), (rv4, .inl (cJ, 16, .inr (.inl (fun _ => 0))))]) hP hD [5] [0, 1, 2, 3, 4] rfl rfl (by decide) (by decide) hkk1 hFc hP1 hD1
    generalize H1 = H at hP hS ⊢
    have hP : va_P D vwCl [(y, .inr (3, [.ref r0, .ref r1, .ref r2, .ref r3, .ref r4, .ref r5, .ref wd, .ref tp, .int (nI wm), .int (nI tm)])), (r3, .inr (2, [.ref a0, .ref b0, .ref v0, .int (nI n)])), (a0, .inl (cI, cap, .inl fa)), (b0, .inl (cI, cap, .inl fb)), (v0, .inl (cJ, cap, .inr (.inl fv))), (q_1, .inr (2, [.ref ra4, .ref rb4, .ref rv4, .int (nI 0)])), (ra4, .inl (cI, 16, .inl (fun _ => 0))), (rb4, .inl (cI, 16, .inl (fun _ => 0))), (rv4, .inl (cJ, 16, .inr (.inl (fun _ => 0))))] H := hP.sub [0, 1, 2, 3, 4, 5, 6, 7, 8] rfl
    have hD : va_D A [(y, .inr (3, [.ref r0, .ref r1, .ref r2, .ref r3, .ref r4, .ref r5, .ref wd, .ref tp, .int (nI wm), .int (nI tm)])), (r3, .inr (2, [.ref a0, .ref b0, .ref v0, .int (nI n)])), (a0, .inl (cI, cap, .inl fa)), (b0, .inl (cI, cap, .inl fb)), (v0, .inl (cJ, cap, .inr (.inl fv))), (q_1, .inr (2, [.ref ra4, .ref rb4, .ref rv4, .int (nI 0)])), (ra4, .inl (cI, 16, .inl (fun _ => 0))), (rb4, .inl (cI, 16, .inl (fun _ => 0))), (rv4, .inl (cJ, 16, .inr (.inl (fun _ => 0))))] := hD.sub [0, 1, 2, 3, 4, 5, 6, 7, 8] (by decide) rfl
    refine lv_astore_n (lv' := [(1, .ref q_1), (0, .ref y)]) hx hb dX3_step_21 rfl hl (by decide) rfl (fun ls hl => ?_)
    refine lv_iconst (v := nI 0) hx hb dX3_step_22 (by decide) ?_
    refine lv_istore_n (lv' := [(2, .int (nI 0)), (1, .ref q_1), (0, .ref y)]) hx hb dX3_step_23 rfl hl (by decide) rfl (fun ls hl => ?_)
    refine z_loopc (σ := Nat × Nat × Nat × Nat × Nat × Nat × (Nat → Int32) × (Nat → Int32) × (Nat → Int64)) (fun (k, ta1, tb1, tv1, tcap1, tn1, tfa1, tfb1, tfv1) => n - k) (fun (k, ta1, tb1, tv1, tcap1, tn1, tfa1, tfb1, tfv1) cells slots H locs ls => va_P D vwCl [(y, .inr (3, [.ref r0, .ref r1, .ref r2, .ref r3, .ref r4, .ref r5, .ref wd, .ref tp, .int (nI wm), .int (nI tm)])), (r3, .inr (2, [.ref a0, .ref b0, .ref v0, .int (nI n)])), (a0, .inl (cI, cap, .inl fa)), (b0, .inl (cI, cap, .inl fb)), (v0, .inl (cJ, cap, .inr (.inl fv))), (q_1, .inr (2, [.ref ta1, .ref tb1, .ref tv1, .int (nI tn1)])), (ta1, .inl (cI, tcap1, .inl tfa1)), (tb1, .inl (cI, tcap1, .inl tfb1)), (tv1, .inl (cJ, tcap1, .inr (.inl tfv1)))] H ∧ va_D A [(y, .inr (3, [.ref r0, .ref r1, .ref r2, .ref r3, .ref r4, .ref r5, .ref wd, .ref tp, .int (nI wm), .int (nI tm)])), (r3, .inr (2, [.ref a0, .ref b0, .ref v0, .int (nI n)])), (a0, .inl (cI, cap, .inl fa)), (b0, .inl (cI, cap, .inl fb)), (v0, .inl (cJ, cap, .inr (.inl fv))), (q_1, .inr (2, [.ref ta1, .ref tb1, .ref tv1, .int (nI tn1)])), (ta1, .inl (cI, tcap1, .inl tfa1)), (tb1, .inl (cI, tcap1, .inl tfb1)), (tv1, .inl (cJ, tcap1, .inr (.inl tfv1)))] ∧ va_S A s.heap H locs ∧ lv_has ls 8 [(0, .ref y), (1, .ref q_1), (2, .int (nI k))] ∧ (k ≤ n) ∧ (rl tn1 tfa1 tfb1 tfv1 = thn (rl n fa fb fv) fa fb (9 * k)) ∧ (ROK tn1 tcap1) ∧ (cells ≤ tcap1) ∧ (slots + 96 ≤ 52 + 6 * tcap1)) ?_ ((0, ra4, rb4, rv4, 16, 0, (fun _ => 0), (fun _ => 0), (fun _ => 0))) _ _ _ _ _ ⟨hP, hD, hS, lv_sub hl [2, 1, 0] rfl, Nat.zero_le _, rfl, ⟨by omega, by omega, by omega⟩, by omega, by omega⟩
    rintro ⟨k, ta1, tb1, tv1, tcap1, tn1, tfa1, tfb1, tfv1⟩ cells slots H locs ls ⟨hP, hD, hS, hl, hk, hT1, hR1, hC1, hZ1⟩ ih
    have hP : va_P D vwCl [(y, .inr (3, [.ref r0, .ref r1, .ref r2, .ref r3, .ref r4, .ref r5, .ref wd, .ref tp, .int (nI wm), .int (nI tm)])), (r3, .inr (2, [.ref a0, .ref b0, .ref v0, .int (nI n)])), (a0, .inl (cI, cap, .inl fa)), (b0, .inl (cI, cap, .inl fb)), (v0, .inl (cJ, cap, .inr (.inl fv))), (q_1, .inr (2, [.ref ta1, .ref tb1, .ref tv1, .int (nI tn1)])), (ta1, .inl (cI, tcap1, .inl tfa1)), (tb1, .inl (cI, tcap1, .inl tfb1)), (tv1, .inl (cJ, tcap1, .inr (.inl tfv1)))] H := hP
    have hl : lv_has ls 8 [(0, .ref y), (1, .ref q_1), (2, .int (nI k))] := hl
    refine lv_iload_n hx hb dX3_step_24 rfl (lv_at hl 2 rfl) ?_
    refine lv_aload_n hx hb dX3_step_25 rfl (lv_at hl 0 rfl) ?_
    refine va_get (D := D) (ci := 3) (v := .ref r3) (C := RX3) (T := TX3) (N := 10) hx hb hts lk1 hown hK hP 0 rfl rfl 3 (by decide) lk0 (fun _ h9 => h9) rfl dX3_step_26 ?_
    refine va_get (D := D) (ci := 2) (v := .int (nI n)) (C := RX2) (T := TX2) (N := 4) hx hb hts lk3 hown hK hP 1 rfl rfl 3 (by decide) lk2 (fun _ h9 => h9) rfl dX3_step_29 ?_
    refine z_icmp_ge (tgt := 152) hx hb dX3_step_32 (by decide) (by omega) (by omega) (fun c_32 => ?_) (fun c_32 => ?_)
    · have hkn : k = n := Nat.le_antisymm hk c_32
      rw [hkn] at hT1
      obtain ⟨hRa, hRb, hRc⟩ := id hR1
      have htl := thn_len (rl n fa fb fv) fa fb (9 * n)
      rw [← hT1, rl_len] at htl
      have hcel := hC1
      have hslo := hZ1
      refine lv_aload_n hx hb dX3_step_152 rfl (lv_at hl 0 rfl) ?_
      refine va_get (D := D) (ci := 3) (v := .ref r3) (C := RX3) (T := TX3) (N := 10) hx hb hts lk1 hown hK hP 0 rfl rfl 3 (by decide) lk0 (fun _ h9 => h9) rfl dX3_step_153 ?_
      refine lv_iconst (v := nI 0) hx hb dX3_step_156 (by decide) ?_
      refine va_put (D := D) (ci := 2) (v := .int (nI 0)) (ty := .int) (C := RX2) (T := TX2) (N := 4) hx hb hts lk3 tyX2 tyX2_ok nmX2 hown hK hP hD hS 1 rfl rfl 3 (by decide) lk2 (fun _ h9 => h9) rfl (by decide +kernel) rfl rfl (Nat.le_of_ble_eq_true rfl) dX3_step_157 (fun H locs hP hD hS => ?_)
      have hP : va_P D vwCl [(y, .inr (3, [.ref r0, .ref r1, .ref r2, .ref r3, .ref r4, .ref r5, .ref wd, .ref tp, .int (nI wm), .int (nI tm)])), (r3, .inr (2, [.ref a0, .ref b0, .ref v0, .int (nI 0)])), (a0, .inl (cI, cap, .inl fa)), (b0, .inl (cI, cap, .inl fb)), (v0, .inl (cJ, cap, .inr (.inl fv))), (q_1, .inr (2, [.ref ta1, .ref tb1, .ref tv1, .int (nI tn1)])), (ta1, .inl (cI, tcap1, .inl tfa1)), (tb1, .inl (cI, tcap1, .inl tfb1)), (tv1, .inl (cJ, tcap1, .inr (.inl tfv1)))] H := hP
      have hD : va_D A [(y, .inr (3, [.ref r0, .ref r1, .ref r2, .ref r3, .ref r4, .ref r5, .ref wd, .ref tp, .int (nI wm), .int (nI tm)])), (r3, .inr (2, [.ref a0, .ref b0, .ref v0, .int (nI 0)])), (a0, .inl (cI, cap, .inl fa)), (b0, .inl (cI, cap, .inl fb)), (v0, .inl (cJ, cap, .inr (.inl fv))), (q_1, .inr (2, [.ref ta1, .ref tb1, .ref tv1, .int (nI tn1)])), (ta1, .inl (cI, tcap1, .inl tfa1)), (tb1, .inl (cI, tcap1, .inl tfb1)), (tv1, .inl (cJ, tcap1, .inr (.inl tfv1)))] := hD
      refine lv_iconst (v := nI 0) hx hb dX3_step_160 (by decide) ?_
      refine lv_istore_n (lv' := [(2, .int (nI 0)), (0, .ref y), (1, .ref q_1)]) hx hb dX3_step_161 rfl hl (by decide) rfl (fun ls hl => ?_)
      refine z_loopc (σ := Nat × Nat × Nat × Nat × Nat × (Nat → Int32) × (Nat → Int32) × (Nat → Int64)) (fun (i, pa, pb, pv, pcap, pfa, pfb, pfv) => tn1 - i) (fun (i, pa, pb, pv, pcap, pfa, pfb, pfv) cells slots H locs ls => va_P D vwCl [(y, .inr (3, [.ref r0, .ref r1, .ref r2, .ref r3, .ref r4, .ref r5, .ref wd, .ref tp, .int (nI wm), .int (nI tm)])), (r3, .inr (2, [.ref pa, .ref pb, .ref pv, .int (nI i)])), (pa, .inl (cI, pcap, .inl pfa)), (pb, .inl (cI, pcap, .inl pfb)), (pv, .inl (cJ, pcap, .inr (.inl pfv))), (q_1, .inr (2, [.ref ta1, .ref tb1, .ref tv1, .int (nI tn1)])), (ta1, .inl (cI, tcap1, .inl tfa1)), (tb1, .inl (cI, tcap1, .inl tfb1)), (tv1, .inl (cJ, tcap1, .inr (.inl tfv1)))] H ∧ va_D A [(y, .inr (3, [.ref r0, .ref r1, .ref r2, .ref r3, .ref r4, .ref r5, .ref wd, .ref tp, .int (nI wm), .int (nI tm)])), (r3, .inr (2, [.ref pa, .ref pb, .ref pv, .int (nI i)])), (pa, .inl (cI, pcap, .inl pfa)), (pb, .inl (cI, pcap, .inl pfb)), (pv, .inl (cJ, pcap, .inr (.inl pfv))), (q_1, .inr (2, [.ref ta1, .ref tb1, .ref tv1, .int (nI tn1)])), (ta1, .inl (cI, tcap1, .inl tfa1)), (tb1, .inl (cI, tcap1, .inl tfb1)), (tv1, .inl (cJ, tcap1, .inr (.inl tfv1)))] ∧ va_S A s.heap H locs ∧ lv_has ls 8 [(0, .ref y), (1, .ref q_1), (2, .int (nI i))] ∧ (i ≤ tn1) ∧ (rl i pfa pfb pfv = rl i tfa1 tfb1 tfv1) ∧ (ROK i pcap) ∧ (cells + cap ≤ tcap1 + pcap) ∧ (slots + 96 + 6 * cap ≤ 52 + 6 * tcap1 + 6 * pcap)) ?_ ((0, a0, b0, v0, cap, fa, fb, fv)) _ _ _ _ _ ⟨hP, hD, hS, lv_sub hl [1, 2, 0] rfl, Nat.zero_le _, rfl, ⟨by omega, h16, hc⟩, by omega, by omega⟩
      rintro ⟨i, pa, pb, pv, pcap, pfa, pfb, pfv⟩ cells slots H locs ls ⟨hP, hD, hS, hl, hi, hU, hR4, hC4, hZ4⟩ ih4
      have hP : va_P D vwCl [(y, .inr (3, [.ref r0, .ref r1, .ref r2, .ref r3, .ref r4, .ref r5, .ref wd, .ref tp, .int (nI wm), .int (nI tm)])), (r3, .inr (2, [.ref pa, .ref pb, .ref pv, .int (nI i)])), (pa, .inl (cI, pcap, .inl pfa)), (pb, .inl (cI, pcap, .inl pfb)), (pv, .inl (cJ, pcap, .inr (.inl pfv))), (q_1, .inr (2, [.ref ta1, .ref tb1, .ref tv1, .int (nI tn1)])), (ta1, .inl (cI, tcap1, .inl tfa1)), (tb1, .inl (cI, tcap1, .inl tfb1)), (tv1, .inl (cJ, tcap1, .inr (.inl tfv1)))] H := hP
      have hl : lv_has ls 8 [(0, .ref y), (1, .ref q_1), (2, .int (nI i))] := hl
      refine lv_iload_n hx hb dX3_step_162 rfl (lv_at hl 2 rfl) ?_
      refine lv_aload_n hx hb dX3_step_163 rfl (lv_at hl 1 rfl) ?_
      refine va_get (D := D) (ci := 2) (v := .int (nI tn1)) (C := RX2) (T := TX2) (N := 4) hx hb hts lk3 hown hK hP 5 rfl rfl 3 (by decide) lk2 (fun _ h9 => h9) rfl dX3_step_164 ?_
      refine z_icmp_ge (tgt := 196) hx hb dX3_step_167 (by decide) (by omega) (by omega) (fun c_167 => ?_) (fun c_167 => ?_)
      · obtain ⟨hRp, hRq, hRr⟩ := id hR4
        refine lv_aload_n hx hb dX3_step_196 rfl (lv_at hl 0 rfl) ?_
        refine va_get (D := D) (ci := 3) (v := .ref r3) (C := RX3) (T := TX3) (N := 10) hx hb hts lk1 hown hK hP 0 rfl rfl 3 (by decide) lk0 (fun _ h9 => h9) rfl dX3_step_197 ?_
        refine va_get (D := D) (ci := 2) (v := .int (nI i)) (C := RX2) (T := TX2) (N := 4) hx hb hts lk3 hown hK hP 1 rfl rfl 3 (by decide) lk2 (fun _ h9 => h9) rfl dX3_step_200 ?_
        refine W.widen (k := 2200) (n := 13300) (by omega) (by omega) ?_
        exact W.iret (v := nI i) hx hb hr (fun t ht hW => ⟨⟨nI i, (pa, pb, pv, pcap, i, pfa, pfb, pfv), rfl, ⟨hR4, Or.inr ⟨c_9, rfl, hU.trans (by rw [Nat.le_antisymm hi c_167]; exact hT1)⟩⟩, by rw [ht]; exact (hP.sub [0, 1, 2, 3, 4] rfl), va_K.moved hW.alike hK, (hD.sub [0, 1, 2, 3, 4] (by decide) rfl)⟩, hS.F ht⟩) hS.2.2 dX3_step_203
      · obtain ⟨hRp, hRq, hRr⟩ := id hR4
        refine lv_aload_n hx hb dX3_step_170 rfl (lv_at hl 0 rfl) ?_
        refine va_get (D := D) (ci := 3) (v := .ref r3) (C := RX3) (T := TX3) (N := 10) hx hb hts lk1 hown hK hP 0 rfl rfl 3 (by decide) lk0 (fun _ h9 => h9) rfl dX3_step_171 ?_
        refine lv_aload_n hx hb dX3_step_174 rfl (lv_at hl 1 rfl) ?_
        refine va_get (D := D) (ci := 2) (v := .ref ta1) (C := RX2) (T := TX2) (N := 4) hx hb hts lk3 hown hK hP 5 rfl rfl 0 (by decide) lk8 (fun _ h9 => h9) rfl dX3_step_175 ?_
        refine lv_iload_n hx hb dX3_step_178 rfl (lv_at hl 2 rfl) ?_
        refine z_iald hx hb hK hP 6 rfl (j := i) (by omega) (by omega) dX3_step_179 ?_
        refine lv_aload_n hx hb dX3_step_180 rfl (lv_at hl 1 rfl) ?_
        refine va_get (D := D) (ci := 2) (v := .ref tb1) (C := RX2) (T := TX2) (N := 4) hx hb hts lk3 hown hK hP 5 rfl rfl 1 (by decide) lk9 (fun _ h9 => h9) rfl dX3_step_181 ?_
        refine lv_iload_n hx hb dX3_step_184 rfl (lv_at hl 2 rfl) ?_
        refine z_iald hx hb hK hP 7 rfl (j := i) (by omega) (by omega) dX3_step_185 ?_
        refine lv_lconst (v := 0) hx hb dX3_step_186 (by decide) ?_
        have hFc := va_free (wc := [(r3, .inr (2, [.ref pa, .ref pb, .ref pv, .int (nI i)])), (pa, .inl (cI, pcap, .inl pfa)), (pb, .inl (cI, pcap, .inl pfb)), (pv, .inl (cJ, pcap, .inr (.inl pfv)))]) hD hS hA [1, 2, 3, 4] rfl
        refine va_callv (va_runV (As := [.int (tfa1 i), .int (tfb1 i), .long 0]) (rest := []) ⟨hx, hb, hml, hown, hts⟩ (c_X2_add l D cI cJ r3 pa pb pv pcap i pfa pfb pfv (tfa1 i) (tfb1 i) 0  (by omega) (by omega) (by omega) (if i = pcap then 3 else 0) (if i = pcap then 6 * pcap else 0) (fun h => by rw [if_pos h, if_pos h]; exact ⟨by omega, by omega⟩) H.size) (cwV 3 hts gX3_step_X2_add rfl rfl rfl (by decide +kernel) ⟨Nat.le_of_ble_eq_true rfl, Nat.le_of_ble_eq_true rfl⟩) (z_preVw hK hP hD [1, 2, 3, 4] (by decide) rfl rfl 2 1 rfl rfl) rfl rfl hl.1 rfl (lv_room (Nat.le_of_ble_eq_true rfl)) dX3_step_187 ⟨by show _ ≤ 2200; have := ite3 (p := i = pcap) inferInstance; omega, by show _ ≤ 13300; split <;> omega⟩) hS (fun q _ h => hFc q h) hFc (fun u_6 t H1 locs ht hvm hr_5 hB hzz1 hkk1 hS => ?_)
        obtain ⟨a7, b7, v7, cap7, fa7, fb7, fv7⟩ := u_6
        obtain ⟨hP1, hK1, hD1⟩ := hB
        rw [ht] at hP1
        try dsimp only at hr_5
        obtain ⟨hP, hD⟩ := va_join (wr := [(y, .inr (3, [.ref r0, .ref r1, .ref r2, .ref r3, .ref r4, .ref r5, .ref wd, .ref tp, .int (nI wm), .int (nI tm)])), (q_1, .inr (2, [.ref ta1, .ref tb1, .ref tv1, .int (nI tn1)])), (ta1, .inl (cI, tcap1, .inl tfa1)), (tb1, .inl (cI, tcap1, .inl tfb1)), (tv1, .inl (cJ, tcap1, .inr (.inl tfv1)))]) (w1 := [(r3, .inr (2, [.ref a7, .ref b7, .ref v7, .int (nI (i + 1))])), (a7, .inl (cI, cap7, .inl fa7)), (b7, .inl (cI, cap7, .inl fb7)), (v7, .inl (cJ, cap7, .inr (.inl fv7)))]) hP hD [1, 2, 3, 4] [0, 5, 6, 7, 8] rfl rfl (by decide) (by decide) hkk1 hFc hP1 hD1
        generalize H1 = H at hP hS ⊢
        have hP : va_P D vwCl [(y, .inr (3, [.ref r0, .ref r1, .ref r2, .ref r3, .ref r4, .ref r5, .ref wd, .ref tp, .int (nI wm), .int (nI tm)])), (r3, .inr (2, [.ref a7, .ref b7, .ref v7, .int (nI (i + 1))])), (a7, .inl (cI, cap7, .inl fa7)), (b7, .inl (cI, cap7, .inl fb7)), (v7, .inl (cJ, cap7, .inr (.inl fv7))), (q_1, .inr (2, [.ref ta1, .ref tb1, .ref tv1, .int (nI tn1)])), (ta1, .inl (cI, tcap1, .inl tfa1)), (tb1, .inl (cI, tcap1, .inl tfb1)), (tv1, .inl (cJ, tcap1, .inr (.inl tfv1)))] H := hP.sub [0, 5, 6, 7, 8, 1, 2, 3, 4] rfl
        have hD : va_D A [(y, .inr (3, [.ref r0, .ref r1, .ref r2, .ref r3, .ref r4, .ref r5, .ref wd, .ref tp, .int (nI wm), .int (nI tm)])), (r3, .inr (2, [.ref a7, .ref b7, .ref v7, .int (nI (i + 1))])), (a7, .inl (cI, cap7, .inl fa7)), (b7, .inl (cI, cap7, .inl fb7)), (v7, .inl (cJ, cap7, .inr (.inl fv7))), (q_1, .inr (2, [.ref ta1, .ref tb1, .ref tv1, .int (nI tn1)])), (ta1, .inl (cI, tcap1, .inl tfa1)), (tb1, .inl (cI, tcap1, .inl tfb1)), (tv1, .inl (cJ, tcap1, .inr (.inl tfv1)))] := hD.sub [0, 5, 6, 7, 8, 1, 2, 3, 4] (by decide) rfl
        obtain ⟨had, hca, hcb, hcc, hcd⟩ := hr_5
        refine lv_iinc (v := nI (i + 1)) (lv' := [(2, .int (nI (i + 1))), (0, .ref y), (1, .ref q_1)]) hx hb dX3_step_190 hl (k := 2) rfl (nI_add i 1) (by decide) rfl (fun ls hl => ?_)
        refine lv_goto (tgt := 162) hx hb dX3_step_193 (by decide) ?_
        exact ih4 ((i + 1, a7, b7, v7, cap7, fa7, fb7, fv7)) _ _ _ _ _ ⟨hP, hD, hS, lv_sub hl [1, 2, 0] rfl, by omega, by rw [had, rl_succ, hU, thn_0 (rl n fa fb fv) fa fb (9 * n) _ (by rw [← hT1]; exact List.mem_of_getElem? (rl_get c_167)) |> (fun h : tfv1 i = 0 => h)], ⟨hca, hcb, by omega⟩, by rcases hcc with z | z <;> split <;> omega, by omega⟩ (by first | omega | (dsimp only; omega))
    · refine lv_iconst (v := (-1)) hx hb dX3_step_35 (by decide) ?_
      refine z_topi (y := off 0) (off_0.symm) ?_
      refine lv_istore_n (lv' := [(3, .int (off 0)), (0, .ref y), (1, .ref q_1), (2, .int (nI k))]) hx hb dX3_step_36 rfl hl (by decide) rfl (fun ls hl => ?_)
      refine z_loopc (σ := Nat × Nat × Nat × Nat × Nat × Nat × (Nat → Int32) × (Nat → Int32) × (Nat → Int64)) (fun (i, ta2, tb2, tv2, tcap2, tn2, tfa2, tfb2, tfv2) => 3 - i) (fun (i, ta2, tb2, tv2, tcap2, tn2, tfa2, tfb2, tfv2) cells slots H locs ls => va_P D vwCl [(y, .inr (3, [.ref r0, .ref r1, .ref r2, .ref r3, .ref r4, .ref r5, .ref wd, .ref tp, .int (nI wm), .int (nI tm)])), (r3, .inr (2, [.ref a0, .ref b0, .ref v0, .int (nI n)])), (a0, .inl (cI, cap, .inl fa)), (b0, .inl (cI, cap, .inl fb)), (v0, .inl (cJ, cap, .inr (.inl fv))), (q_1, .inr (2, [.ref ta2, .ref tb2, .ref tv2, .int (nI tn2)])), (ta2, .inl (cI, tcap2, .inl tfa2)), (tb2, .inl (cI, tcap2, .inl tfb2)), (tv2, .inl (cJ, tcap2, .inr (.inl tfv2)))] H ∧ va_D A [(y, .inr (3, [.ref r0, .ref r1, .ref r2, .ref r3, .ref r4, .ref r5, .ref wd, .ref tp, .int (nI wm), .int (nI tm)])), (r3, .inr (2, [.ref a0, .ref b0, .ref v0, .int (nI n)])), (a0, .inl (cI, cap, .inl fa)), (b0, .inl (cI, cap, .inl fb)), (v0, .inl (cJ, cap, .inr (.inl fv))), (q_1, .inr (2, [.ref ta2, .ref tb2, .ref tv2, .int (nI tn2)])), (ta2, .inl (cI, tcap2, .inl tfa2)), (tb2, .inl (cI, tcap2, .inl tfb2)), (tv2, .inl (cJ, tcap2, .inr (.inl tfv2)))] ∧ va_S A s.heap H locs ∧ lv_has ls 8 [(0, .ref y), (1, .ref q_1), (2, .int (nI k)), (3, .int (off i))] ∧ (i ≤ 3) ∧ (rl tn2 tfa2 tfb2 tfv2 = thn (rl n fa fb fv) fa fb (9 * k + 3 * i)) ∧ (ROK tn2 tcap2) ∧ (cells ≤ tcap2) ∧ (slots + 96 ≤ 52 + 6 * tcap2)) ?_ ((0, ta1, tb1, tv1, tcap1, tn1, tfa1, tfb1, tfv1)) _ _ _ _ _ ⟨hP, hD, hS, lv_sub hl [1, 2, 3, 0] rfl, by decide, hT1, hR1, hC1, hZ1⟩
      rintro ⟨i, ta2, tb2, tv2, tcap2, tn2, tfa2, tfb2, tfv2⟩ cells slots H locs ls ⟨hP, hD, hS, hl, hi, hT2, hR2, hC2, hZ2⟩ ih2
      have hP : va_P D vwCl [(y, .inr (3, [.ref r0, .ref r1, .ref r2, .ref r3, .ref r4, .ref r5, .ref wd, .ref tp, .int (nI wm), .int (nI tm)])), (r3, .inr (2, [.ref a0, .ref b0, .ref v0, .int (nI n)])), (a0, .inl (cI, cap, .inl fa)), (b0, .inl (cI, cap, .inl fb)), (v0, .inl (cJ, cap, .inr (.inl fv))), (q_1, .inr (2, [.ref ta2, .ref tb2, .ref tv2, .int (nI tn2)])), (ta2, .inl (cI, tcap2, .inl tfa2)), (tb2, .inl (cI, tcap2, .inl tfb2)), (tv2, .inl (cJ, tcap2, .inr (.inl tfv2)))] H := hP
      have hl : lv_has ls 8 [(0, .ref y), (1, .ref q_1), (2, .int (nI k)), (3, .int (off i))] := hl
      refine lv_iload_n hx hb dX3_step_37 rfl (lv_at hl 3 rfl) ?_
      refine lv_iconst (v := nI 2) hx hb dX3_step_38 (by decide) ?_
      refine lv_icmp_ge (tgt := 146) hx hb dX3_step_39 (by decide) (fun c_39 => ?_) (fun c_39 => ?_)
      · have hi3 := (off_in2 hi).1 c_39
        rw [show 9 * k + 3 * i = 9 * (k + 1) by omega] at hT2
        refine lv_iinc (v := nI (k + 1)) (lv' := [(2, .int (nI (k + 1))), (0, .ref y), (1, .ref q_1), (3, .int (off i))]) hx hb dX3_step_146 hl (k := 2) rfl (nI_add k 1) (by decide) rfl (fun ls hl => ?_)
        refine lv_goto (tgt := 24) hx hb dX3_step_149 (by decide) ?_
        exact ih ((k + 1, ta2, tb2, tv2, tcap2, tn2, tfa2, tfb2, tfv2)) _ _ _ _ _ ⟨hP, hD, hS, lv_sub hl [1, 2, 0] rfl, by omega, hT2, hR2, hC2, hZ2⟩ (by first | omega | (dsimp only; omega))
      · have hi3 := (off_in2 hi).2 c_39
        refine lv_iconst (v := (-1)) hx hb dX3_step_42 (by decide) ?_
        refine z_topi (y := off 0) (off_0.symm) ?_
        refine lv_istore (lv' := [(4, .int (off 0)), (0, .ref y), (1, .ref q_1), (2, .int (nI k)), (3, .int (off i))]) hx hb dX3_step_43 hl (by decide) rfl (fun ls hl => ?_)
        refine z_loopc (σ := Nat × Nat × Nat × Nat × Nat × Nat × (Nat → Int32) × (Nat → Int32) × (Nat → Int64)) (fun (j, ta3, tb3, tv3, tcap3, tn3, tfa3, tfb3, tfv3) => 3 - j) (fun (j, ta3, tb3, tv3, tcap3, tn3, tfa3, tfb3, tfv3) cells slots H locs ls => va_P D vwCl [(y, .inr (3, [.ref r0, .ref r1, .ref r2, .ref r3, .ref r4, .ref r5, .ref wd, .ref tp, .int (nI wm), .int (nI tm)])), (r3, .inr (2, [.ref a0, .ref b0, .ref v0, .int (nI n)])), (a0, .inl (cI, cap, .inl fa)), (b0, .inl (cI, cap, .inl fb)), (v0, .inl (cJ, cap, .inr (.inl fv))), (q_1, .inr (2, [.ref ta3, .ref tb3, .ref tv3, .int (nI tn3)])), (ta3, .inl (cI, tcap3, .inl tfa3)), (tb3, .inl (cI, tcap3, .inl tfb3)), (tv3, .inl (cJ, tcap3, .inr (.inl tfv3)))] H ∧ va_D A [(y, .inr (3, [.ref r0, .ref r1, .ref r2, .ref r3, .ref r4, .ref r5, .ref wd, .ref tp, .int (nI wm), .int (nI tm)])), (r3, .inr (2, [.ref a0, .ref b0, .ref v0, .int (nI n)])), (a0, .inl (cI, cap, .inl fa)), (b0, .inl (cI, cap, .inl fb)), (v0, .inl (cJ, cap, .inr (.inl fv))), (q_1, .inr (2, [.ref ta3, .ref tb3, .ref tv3, .int (nI tn3)])), (ta3, .inl (cI, tcap3, .inl tfa3)), (tb3, .inl (cI, tcap3, .inl tfb3)), (tv3, .inl (cJ, tcap3, .inr (.inl tfv3)))] ∧ va_S A s.heap H locs ∧ lv_has ls 8 [(0, .ref y), (1, .ref q_1), (2, .int (nI k)), (3, .int (off i)), (4, .int (off j))] ∧ (j ≤ 3) ∧ (rl tn3 tfa3 tfb3 tfv3 = thn (rl n fa fb fv) fa fb (9 * k + 3 * i + j)) ∧ (ROK tn3 tcap3) ∧ (cells ≤ tcap3) ∧ (slots + 96 ≤ 52 + 6 * tcap3)) ?_ ((0, ta2, tb2, tv2, tcap2, tn2, tfa2, tfb2, tfv2)) _ _ _ _ _ ⟨hP, hD, hS, lv_sub hl [1, 2, 3, 4, 0] rfl, by decide, hT2, hR2, hC2, hZ2⟩
        rintro ⟨j, ta3, tb3, tv3, tcap3, tn3, tfa3, tfb3, tfv3⟩ cells slots H locs ls ⟨hP, hD, hS, hl, hj, hT3, hR3, hC3, hZ3⟩ ih3
        have hP : va_P D vwCl [(y, .inr (3, [.ref r0, .ref r1, .ref r2, .ref r3, .ref r4, .ref r5, .ref wd, .ref tp, .int (nI wm), .int (nI tm)])), (r3, .inr (2, [.ref a0, .ref b0, .ref v0, .int (nI n)])), (a0, .inl (cI, cap, .inl fa)), (b0, .inl (cI, cap, .inl fb)), (v0, .inl (cJ, cap, .inr (.inl fv))), (q_1, .inr (2, [.ref ta3, .ref tb3, .ref tv3, .int (nI tn3)])), (ta3, .inl (cI, tcap3, .inl tfa3)), (tb3, .inl (cI, tcap3, .inl tfb3)), (tv3, .inl (cJ, tcap3, .inr (.inl tfv3)))] H := hP
        have hl : lv_has ls 8 [(0, .ref y), (1, .ref q_1), (2, .int (nI k)), (3, .int (off i)), (4, .int (off j))] := hl
        refine lv_iload hx hb dX3_step_45 (lv_at hl 4 rfl) ?_
        refine lv_iconst (v := nI 2) hx hb dX3_step_47 (by decide) ?_
        refine lv_icmp_ge (tgt := 140) hx hb dX3_step_48 (by decide) (fun c_48 => ?_) (fun c_48 => ?_)
        · have hj3 := (off_in2 hj).1 c_48
          rw [show 9 * k + 3 * i + j = 9 * k + 3 * (i + 1) by omega] at hT3
          refine lv_iinc (v := off (i + 1)) (lv' := [(3, .int (off (i + 1))), (0, .ref y), (1, .ref q_1), (2, .int (nI k)), (4, .int (off j))]) hx hb dX3_step_140 hl (k := 3) rfl (off_s i) (by decide) rfl (fun ls hl => ?_)
          refine lv_goto (tgt := 37) hx hb dX3_step_143 (by decide) ?_
          exact ih2 ((i + 1, ta3, tb3, tv3, tcap3, tn3, tfa3, tfb3, tfv3)) _ _ _ _ _ ⟨hP, hD, hS, lv_sub hl [1, 2, 3, 0] rfl, by omega, hT3, hR3, hC3, hZ3⟩ (by first | omega | (dsimp only; omega))
        · have hj3 := (off_in2 hj).2 c_48
          obtain ⟨hRa, hRb, hRc⟩ := id hR3
          have hxe := cX_eq (fa := fa) (k := k) hi3 hj3
          have hye := cY_eq (fb := fb) (k := k) hi3 hj3
          refine lv_aload_n hx hb dX3_step_51 rfl (lv_at hl 0 rfl) ?_
          refine va_get (D := D) (ci := 3) (v := .ref r3) (C := RX3) (T := TX3) (N := 10) hx hb hts lk1 hown hK hP 0 rfl rfl 3 (by decide) lk0 (fun _ h9 => h9) rfl dX3_step_52 ?_
          refine va_get (D := D) (ci := 2) (v := .ref a0) (C := RX2) (T := TX2) (N := 4) hx hb hts lk3 hown hK hP 1 rfl rfl 0 (by decide) lk8 (fun _ h9 => h9) rfl dX3_step_55 ?_
          refine lv_iload_n hx hb dX3_step_58 rfl (lv_at hl 2 rfl) ?_
          refine z_iald hx hb hK hP 2 rfl (j := k) (by omega) (by omega) dX3_step_59 ?_
          refine lv_iload_n hx hb dX3_step_60 rfl (lv_at hl 3 rfl) ?_
          refine lv_iadd hx hb dX3_step_61 ?_
          refine lv_istore (lv' := [(5, .int ((fa k) + (off i))), (0, .ref y), (1, .ref q_1), (2, .int (nI k)), (3, .int (off i)), (4, .int (off j))]) hx hb dX3_step_62 hl (by decide) rfl (fun ls hl => ?_)
          refine lv_aload_n hx hb dX3_step_64 rfl (lv_at hl 1 rfl) ?_
          refine va_get (D := D) (ci := 3) (v := .ref r3) (C := RX3) (T := TX3) (N := 10) hx hb hts lk1 hown hK hP 0 rfl rfl 3 (by decide) lk0 (fun _ h9 => h9) rfl dX3_step_65 ?_
          refine va_get (D := D) (ci := 2) (v := .ref b0) (C := RX2) (T := TX2) (N := 4) hx hb hts lk3 hown hK hP 1 rfl rfl 1 (by decide) lk9 (fun _ h9 => h9) rfl dX3_step_68 ?_
          refine lv_iload_n hx hb dX3_step_71 rfl (lv_at hl 3 rfl) ?_
          refine z_iald hx hb hK hP 3 rfl (j := k) (by omega) (by omega) dX3_step_72 ?_
          refine lv_iload hx hb dX3_step_73 (lv_at hl 5 rfl) ?_
          refine lv_iadd hx hb dX3_step_75 ?_
          refine lv_istore (lv' := [(6, .int ((fb k) + (off j))), (5, .int ((fa k) + (off i))), (0, .ref y), (1, .ref q_1), (2, .int (nI k)), (3, .int (off i)), (4, .int (off j))]) hx hb dX3_step_76 hl (by decide) rfl (fun ls hl => ?_)
          refine lv_aload_n hx hb dX3_step_78 rfl (lv_at hl 2 rfl) ?_
          refine lv_iload hx hb dX3_step_79 (lv_at hl 1 rfl) ?_
          refine lv_iload hx hb dX3_step_81 (lv_at hl 0 rfl) ?_
          refine vp_callSi (va_Run.run (va_runV (As := [.int ((fa k) + (off i)), .int ((fb k) + (off j))]) (rest := []) ⟨hx, hb, hml, hown, hts⟩ (c_X3_around l D cI cJ y r0 r1 r2 r3 r4 r5 wd tp wm tm a0 b0 v0 cap n fa fb fv (by omega) (by omega) (by omega) ((fa k) + (off i)) ((fb k) + (off j))) (cwV 2 hts gX3_step_X3_around rfl rfl rfl (by decide +kernel) ⟨Nat.le_of_ble_eq_true rfl, Nat.le_of_ble_eq_true rfl⟩) (z_preV hK hP [0, 1, 2, 3, 4] rfl 3 0 rfl rfl) rfl rfl hl.1 rfl (lv_room (Nat.le_of_ble_eq_true rfl)) dX3_step_83 ⟨by show _ ≤ 2200; omega, by show _ ≤ 13300; omega⟩)) (fun r_8 hr_8 => ?_)
          replace hr_8 := hr_8.symm
          subst hr_8
          have harl := arK_le (mP (rl n fa fb fv) ((fa k) + (off i)) ((fb k) + (off j))) 9
          refine lv_istore (lv' := [(7, .int (nI (arK (mP (rl n fa fb fv) ((fa k) + (off i)) ((fb k) + (off j))) 9))), (6, .int ((fb k) + (off j))), (5, .int ((fa k) + (off i))), (0, .ref y), (1, .ref q_1), (2, .int (nI k)), (3, .int (off i)), (4, .int (off j))]) hx hb dX3_step_86 hl (by decide) rfl (fun ls hl => ?_)
          refine lv_iload hx hb dX3_step_88 (lv_at hl 0 rfl) ?_
          refine lv_iconst (v := nI 3) hx hb dX3_step_90 (by decide) ?_
          refine z_icmp_eq (tgt := 114) hx hb dX3_step_91 (by decide) (by omega) (by omega) (fun c_91 => ?_) (fun c_91 => ?_)
          · have hok : okS (rl n fa fb fv) (fa k + off i) (fb k + off j) := Or.inl c_91
            refine lv_aload_n hx hb dX3_step_114 rfl (lv_at hl 4 rfl) ?_
            refine lv_iload hx hb dX3_step_115 (lv_at hl 2 rfl) ?_
            refine lv_iload hx hb dX3_step_117 (lv_at hl 1 rfl) ?_
            refine vp_callSi (va_Run.run (va_runV (As := [.int ((fa k) + (off i)), .int ((fb k) + (off j))]) (rest := []) ⟨hx, hb, hml, hown, hts⟩ (c_X2_find l D cI cJ q_1 ta3 tb3 tv3 tcap3 tn3 tfa3 tfb3 tfv3 ((fa k) + (off i)) ((fb k) + (off j)) (by omega) (by omega)) (cwV 2 hts gX3_step_X2_find rfl rfl rfl (by decide +kernel) ⟨Nat.le_of_ble_eq_true rfl, Nat.le_of_ble_eq_true rfl⟩) (z_preV hK hP [5, 6, 7, 8] rfl 2 5 rfl rfl) rfl rfl hl.1 rfl (lv_room (Nat.le_of_ble_eq_true rfl)) dX3_step_119 ⟨by show _ ≤ 2200; omega, by show _ ≤ 13300; omega⟩)) (fun r_9 hr_9 => ?_)
            rcases hr_9 with ⟨j_f, e_f, he, hea, heb, rfl⟩ | ⟨hnf, rfl⟩
            · obtain ⟨hj, hja, hjb, hjv⟩ := rl_lt he
              refine z_if_ge (tgt := 134) hx hb dX3_step_122 (by decide) (by omega) ?_
              have hth : thn (rl n fa fb fv) fa fb (9 * k + 3 * i + j + 1) = thn (rl n fa fb fv) fa fb (9 * k + 3 * i + j) := thn_no (by rw [hxe, hye]; exact fun q => q.2 ⟨e_f, by rw [← hT3]; exact List.mem_of_getElem? he, hea, heb⟩)
              refine lv_iinc (v := off (j + 1)) (lv' := [(4, .int (off (j + 1))), (7, .int (nI (arK (mP (rl n fa fb fv) ((fa k) + (off i)) ((fb k) + (off j))) 9))), (6, .int ((fb k) + (off j))), (5, .int ((fa k) + (off i))), (0, .ref y), (1, .ref q_1), (2, .int (nI k)), (3, .int (off i))]) hx hb dX3_step_134 hl (k := 7) rfl (off_s j) (by decide) rfl (fun ls hl => ?_)
              refine lv_goto (tgt := 45) hx hb dX3_step_137 (by decide) ?_
              exact ih3 ((j + 1, ta3, tb3, tv3, tcap3, tn3, tfa3, tfb3, tfv3)) _ _ _ _ _ ⟨hP, hD, hS, lv_sub hl [4, 5, 6, 7, 0] rfl, by omega, hT3.trans hth.symm, hR3, hC3, hZ3⟩ (by first | omega | (dsimp only; omega))
            · refine lv_if_ge (tgt := 134) hx hb dX3_step_122 (by decide) (fun q => absurd q (by decide)) (fun _ => ?_)
              have htl := thn_len (rl n fa fb fv) fa fb (9 * k + 3 * i + j)
              rw [← hT3, rl_len] at htl
              refine lv_aload_n hx hb dX3_step_125 rfl (lv_at hl 4 rfl) ?_
              refine lv_iload hx hb dX3_step_126 (lv_at hl 2 rfl) ?_
              refine lv_iload hx hb dX3_step_128 (lv_at hl 1 rfl) ?_
              refine lv_lconst (v := 0) hx hb dX3_step_130 (by decide) ?_
              have hFc := va_free (wc := [(q_1, .inr (2, [.ref ta3, .ref tb3, .ref tv3, .int (nI tn3)])), (ta3, .inl (cI, tcap3, .inl tfa3)), (tb3, .inl (cI, tcap3, .inl tfb3)), (tv3, .inl (cJ, tcap3, .inr (.inl tfv3)))]) hD hS hA [5, 6, 7, 8] rfl
              refine va_callv (va_runV (As := [.int ((fa k) + (off i)), .int ((fb k) + (off j)), .long 0]) (rest := []) ⟨hx, hb, hml, hown, hts⟩ (c_X2_add l D cI cJ q_1 ta3 tb3 tv3 tcap3 tn3 tfa3 tfb3 tfv3 ((fa k) + (off i)) ((fb k) + (off j)) 0  (by omega) (by omega) (by omega) (if tn3 = tcap3 then 3 else 0) (if tn3 = tcap3 then 6 * tcap3 else 0) (fun h => by rw [if_pos h, if_pos h]; exact ⟨by omega, by omega⟩) H.size) (cwV 3 hts gX3_step_X2_add rfl rfl rfl (by decide +kernel) ⟨Nat.le_of_ble_eq_true rfl, Nat.le_of_ble_eq_true rfl⟩) (z_preVw hK hP hD [5, 6, 7, 8] (by decide) rfl rfl 2 5 rfl rfl) rfl rfl hl.1 rfl (lv_room (Nat.le_of_ble_eq_true rfl)) dX3_step_131 ⟨by show _ ≤ 2200; have := ite3 (p := tn3 = tcap3) inferInstance; omega, by show _ ≤ 13300; split <;> omega⟩) hS (fun q _ h => hFc q h) hFc (fun u_11 t H1 locs ht hvm hr_10 hB hzz1 hkk1 hS => ?_)
              obtain ⟨a12, b12, v12, cap12, fa12, fb12, fv12⟩ := u_11
              obtain ⟨hP1, hK1, hD1⟩ := hB
              rw [ht] at hP1
              try dsimp only at hr_10
              obtain ⟨hP, hD⟩ := va_join (wr := [(y, .inr (3, [.ref r0, .ref r1, .ref r2, .ref r3, .ref r4, .ref r5, .ref wd, .ref tp, .int (nI wm), .int (nI tm)])), (r3, .inr (2, [.ref a0, .ref b0, .ref v0, .int (nI n)])), (a0, .inl (cI, cap, .inl fa)), (b0, .inl (cI, cap, .inl fb)), (v0, .inl (cJ, cap, .inr (.inl fv)))]) (w1 := [(q_1, .inr (2, [.ref a12, .ref b12, .ref v12, .int (nI (tn3 + 1))])), (a12, .inl (cI, cap12, .inl fa12)), (b12, .inl (cI, cap12, .inl fb12)), (v12, .inl (cJ, cap12, .inr (.inl fv12)))]) hP hD [5, 6, 7, 8] [0, 1, 2, 3, 4] rfl rfl (by decide) (by decide) hkk1 hFc hP1 hD1
              generalize H1 = H at hP hS ⊢
              have hP : va_P D vwCl [(y, .inr (3, [.ref r0, .ref r1, .ref r2, .ref r3, .ref r4, .ref r5, .ref wd, .ref tp, .int (nI wm), .int (nI tm)])), (r3, .inr (2, [.ref a0, .ref b0, .ref v0, .int (nI n)])), (a0, .inl (cI, cap, .inl fa)), (b0, .inl (cI, cap, .inl fb)), (v0, .inl (cJ, cap, .inr (.inl fv))), (q_1, .inr (2, [.ref a12, .ref b12, .ref v12, .int (nI (tn3 + 1))])), (a12, .inl (cI, cap12, .inl fa12)), (b12, .inl (cI, cap12, .inl fb12)), (v12, .inl (cJ, cap12, .inr (.inl fv12)))] H := hP.sub [0, 1, 2, 3, 4, 5, 6, 7, 8] rfl
              have hD : va_D A [(y, .inr (3, [.ref r0, .ref r1, .ref r2, .ref r3, .ref r4, .ref r5, .ref wd, .ref tp, .int (nI wm), .int (nI tm)])), (r3, .inr (2, [.ref a0, .ref b0, .ref v0, .int (nI n)])), (a0, .inl (cI, cap, .inl fa)), (b0, .inl (cI, cap, .inl fb)), (v0, .inl (cJ, cap, .inr (.inl fv))), (q_1, .inr (2, [.ref a12, .ref b12, .ref v12, .int (nI (tn3 + 1))])), (a12, .inl (cI, cap12, .inl fa12)), (b12, .inl (cI, cap12, .inl fb12)), (v12, .inl (cJ, cap12, .inr (.inl fv12)))] := hD.sub [0, 1, 2, 3, 4, 5, 6, 7, 8] (by decide) rfl
              obtain ⟨had, hca, hcb, hcc, hcd⟩ := hr_10
              have hth := thn_yes (l := (rl n fa fb fv)) (fa := fa) (fb := fb) (t := 9 * k + 3 * i + j) (by rw [hxe, hye, ← hT3]; exact ⟨hok, fun q => q.elim fun e h => hnf e h.1 h.2⟩)
              rw [hxe, hye, ← hT3] at hth
              have hTn := had.trans hth.symm
              refine lv_iinc (v := off (j + 1)) (lv' := [(4, .int (off (j + 1))), (7, .int (nI (arK (mP (rl n fa fb fv) ((fa k) + (off i)) ((fb k) + (off j))) 9))), (6, .int ((fb k) + (off j))), (5, .int ((fa k) + (off i))), (0, .ref y), (1, .ref q_1), (2, .int (nI k)), (3, .int (off i))]) hx hb dX3_step_134 hl (k := 7) rfl (off_s j) (by decide) rfl (fun ls hl => ?_)
              refine lv_goto (tgt := 45) hx hb dX3_step_137 (by decide) ?_
              exact ih3 ((j + 1, a12, b12, v12, cap12, tn3 + 1, fa12, fb12, fv12)) _ _ _ _ _ ⟨hP, hD, hS, lv_sub hl [4, 5, 6, 7, 0] rfl, by omega, hTn, ⟨hca, hcb, by omega⟩, by rcases hcc with z | z <;> split <;> omega, by omega⟩ (by first | omega | (dsimp only; omega))
          · refine lv_iload hx hb dX3_step_94 (lv_at hl 0 rfl) ?_
            refine lv_iconst (v := nI 2) hx hb dX3_step_96 (by decide) ?_
            refine z_icmp_ne (tgt := 134) hx hb dX3_step_97 (by decide) (by omega) (by omega) (fun c_97 => ?_) (fun c_97 => ?_)
            · have hth : thn (rl n fa fb fv) fa fb (9 * k + 3 * i + j + 1) = thn (rl n fa fb fv) fa fb (9 * k + 3 * i + j) := thn_no (by rw [hxe, hye]; exact fun q => q.1.elim (fun z => c_91 z) (fun z => c_97 z.1))
              refine lv_iinc (v := off (j + 1)) (lv' := [(4, .int (off (j + 1))), (7, .int (nI (arK (mP (rl n fa fb fv) ((fa k) + (off i)) ((fb k) + (off j))) 9))), (6, .int ((fb k) + (off j))), (5, .int ((fa k) + (off i))), (0, .ref y), (1, .ref q_1), (2, .int (nI k)), (3, .int (off i))]) hx hb dX3_step_134 hl (k := 7) rfl (off_s j) (by decide) rfl (fun ls hl => ?_)
              refine lv_goto (tgt := 45) hx hb dX3_step_137 (by decide) ?_
              exact ih3 ((j + 1, ta3, tb3, tv3, tcap3, tn3, tfa3, tfb3, tfv3)) _ _ _ _ _ ⟨hP, hD, hS, lv_sub hl [4, 5, 6, 7, 0] rfl, by omega, hT3.trans hth.symm, hR3, hC3, hZ3⟩ (by first | omega | (dsimp only; omega))
            · refine lv_aload_n hx hb dX3_step_100 rfl (lv_at hl 3 rfl) ?_
              refine va_get (D := D) (ci := 3) (v := .ref r3) (C := RX3) (T := TX3) (N := 10) hx hb hts lk1 hown hK hP 0 rfl rfl 3 (by decide) lk0 (fun _ h9 => h9) rfl dX3_step_101 ?_
              refine lv_iload hx hb dX3_step_104 (lv_at hl 2 rfl) ?_
              refine lv_iload hx hb dX3_step_106 (lv_at hl 1 rfl) ?_
              refine vp_callSi (va_Run.run (va_runV (As := [.int ((fa k) + (off i)), .int ((fb k) + (off j))]) (rest := []) ⟨hx, hb, hml, hown, hts⟩ (c_X2_find l D cI cJ r3 a0 b0 v0 cap n fa fb fv ((fa k) + (off i)) ((fb k) + (off j)) (by omega) (by omega)) (cwV 2 hts gX3_step_X2_find rfl rfl rfl (by decide +kernel) ⟨Nat.le_of_ble_eq_true rfl, Nat.le_of_ble_eq_true rfl⟩) (z_preV hK hP [1, 2, 3, 4] rfl 2 1 rfl rfl) rfl rfl hl.1 rfl (lv_room (Nat.le_of_ble_eq_true rfl)) dX3_step_108 ⟨by show _ ≤ 2200; omega, by show _ ≤ 13300; omega⟩)) (fun r_13 hr_13 => ?_)
              rcases hr_13 with ⟨j_f, e_f, he, hea, heb, rfl⟩ | ⟨hnf, rfl⟩
              · obtain ⟨hj, hja, hjb, hjv⟩ := rl_lt he
                refine z_if_lt (tgt := 134) hx hb dX3_step_111 (by decide) (by omega) ?_
                have hok : okS (rl n fa fb fv) (fa k + off i) (fb k + off j) := Or.inr ⟨c_97, e_f, List.mem_of_getElem? he, hea, heb⟩
                refine lv_aload_n hx hb dX3_step_114 rfl (lv_at hl 4 rfl) ?_
                refine lv_iload hx hb dX3_step_115 (lv_at hl 2 rfl) ?_
                refine lv_iload hx hb dX3_step_117 (lv_at hl 1 rfl) ?_
                refine vp_callSi (va_Run.run (va_runV (As := [.int ((fa k) + (off i)), .int ((fb k) + (off j))]) (rest := []) ⟨hx, hb, hml, hown, hts⟩ (c_X2_find l D cI cJ q_1 ta3 tb3 tv3 tcap3 tn3 tfa3 tfb3 tfv3 ((fa k) + (off i)) ((fb k) + (off j)) (by omega) (by omega)) (cwV 2 hts gX3_step_X2_find rfl rfl rfl (by decide +kernel) ⟨Nat.le_of_ble_eq_true rfl, Nat.le_of_ble_eq_true rfl⟩) (z_preV hK hP [5, 6, 7, 8] rfl 2 5 rfl rfl) rfl rfl hl.1 rfl (lv_room (Nat.le_of_ble_eq_true rfl)) dX3_step_119 ⟨by show _ ≤ 2200; omega, by show _ ≤ 13300; omega⟩)) (fun r_14 hr_14 => ?_)
                rcases hr_14 with ⟨j_f, e_f, he, hea, heb, rfl⟩ | ⟨hnf, rfl⟩
                · obtain ⟨hj, hja, hjb, hjv⟩ := rl_lt he
                  refine z_if_ge (tgt := 134) hx hb dX3_step_122 (by decide) (by omega) ?_
                  have hth : thn (rl n fa fb fv) fa fb (9 * k + 3 * i + j + 1) = thn (rl n fa fb fv) fa fb (9 * k + 3 * i + j) := thn_no (by rw [hxe, hye]; exact fun q => q.2 ⟨e_f, by rw [← hT3]; exact List.mem_of_getElem? he, hea, heb⟩)
                  refine lv_iinc (v := off (j + 1)) (lv' := [(4, .int (off (j + 1))), (7, .int (nI (arK (mP (rl n fa fb fv) ((fa k) + (off i)) ((fb k) + (off j))) 9))), (6, .int ((fb k) + (off j))), (5, .int ((fa k) + (off i))), (0, .ref y), (1, .ref q_1), (2, .int (nI k)), (3, .int (off i))]) hx hb dX3_step_134 hl (k := 7) rfl (off_s j) (by decide) rfl (fun ls hl => ?_)
                  refine lv_goto (tgt := 45) hx hb dX3_step_137 (by decide) ?_
                  exact ih3 ((j + 1, ta3, tb3, tv3, tcap3, tn3, tfa3, tfb3, tfv3)) _ _ _ _ _ ⟨hP, hD, hS, lv_sub hl [4, 5, 6, 7, 0] rfl, by omega, hT3.trans hth.symm, hR3, hC3, hZ3⟩ (by first | omega | (dsimp only; omega))
                · refine lv_if_ge (tgt := 134) hx hb dX3_step_122 (by decide) (fun q => absurd q (by decide)) (fun _ => ?_)
                  have htl := thn_len (rl n fa fb fv) fa fb (9 * k + 3 * i + j)
                  rw [← hT3, rl_len] at htl
                  refine lv_aload_n hx hb dX3_step_125 rfl (lv_at hl 4 rfl) ?_
                  refine lv_iload hx hb dX3_step_126 (lv_at hl 2 rfl) ?_
                  refine lv_iload hx hb dX3_step_128 (lv_at hl 1 rfl) ?_
                  refine lv_lconst (v := 0) hx hb dX3_step_130 (by decide) ?_
                  have hFc := va_free (wc := [(q_1, .inr (2, [.ref ta3, .ref tb3, .ref tv3, .int (nI tn3)])), (ta3, .inl (cI, tcap3, .inl tfa3)), (tb3, .inl (cI, tcap3, .inl tfb3)), (tv3, .inl (cJ, tcap3, .inr (.inl tfv3)))]) hD hS hA [5, 6, 7, 8] rfl
                  refine va_callv (va_runV (As := [.int ((fa k) + (off i)), .int ((fb k) + (off j)), .long 0]) (rest := []) ⟨hx, hb, hml, hown, hts⟩ (c_X2_add l D cI cJ q_1 ta3 tb3 tv3 tcap3 tn3 tfa3 tfb3 tfv3 ((fa k) + (off i)) ((fb k) + (off j)) 0  (by omega) (by omega) (by omega) (if tn3 = tcap3 then 3 else 0) (if tn3 = tcap3 then 6 * tcap3 else 0) (fun h => by rw [if_pos h, if_pos h]; exact ⟨by omega, by omega⟩) H.size) (cwV 3 hts gX3_step_X2_add rfl rfl rfl (by decide +kernel) ⟨Nat.le_of_ble_eq_true rfl, Nat.le_of_ble_eq_true rfl⟩) (z_preVw hK hP hD [5, 6, 7, 8] (by decide) rfl rfl 2 5 rfl rfl) rfl rfl hl.1 rfl (lv_room (Nat.le_of_ble_eq_true rfl)) dX3_step_131 ⟨by show _ ≤ 2200; have := ite3 (p := tn3 = tcap3) inferInstance; omega, by show _ ≤ 13300; split <;> omega⟩) hS (fun q _ h => hFc q h) hFc (fun u_16 t H1 locs ht hvm hr_15 hB hzz1 hkk1 hS => ?_)
                  obtain ⟨a17, b17, v17, cap17, fa17, fb17, fv17⟩ := u_16
                  obtain ⟨hP1, hK1, hD1⟩ := hB
                  rw [ht] at hP1
                  try dsimp only at hr_15
                  obtain ⟨hP, hD⟩ := va_join (wr := [(y, .inr (3, [.ref r0, .ref r1, .ref r2, .ref r3, .ref r4, .ref r5, .ref wd, .ref tp, .int (nI wm), .int (nI tm)])), (r3, .inr (2, [.ref a0, .ref b0, .ref v0, .int (nI n)])), (a0, .inl (cI, cap, .inl fa)), (b0, .inl (cI, cap, .inl fb)), (v0, .inl (cJ, cap, .inr (.inl fv)))]) (w1 := [(q_1, .inr (2, [.ref a17, .ref b17, .ref v17, .int (nI (tn3 + 1))])), (a17, .inl (cI, cap17, .inl fa17)), (b17, .inl (cI, cap17, .inl fb17)), (v17, .inl (cJ, cap17, .inr (.inl fv17)))]) hP hD [5, 6, 7, 8] [0, 1, 2, 3, 4] rfl rfl (by decide) (by decide) hkk1 hFc hP1 hD1
                  generalize H1 = H at hP hS ⊢
                  have hP : va_P D vwCl [(y, .inr (3, [.ref r0, .ref r1, .ref r2, .ref r3, .ref r4, .ref r5, .ref wd, .ref tp, .int (nI wm), .int (nI tm)])), (r3, .inr (2, [.ref a0, .ref b0, .ref v0, .int (nI n)])), (a0, .inl (cI, cap, .inl fa)), (b0, .inl (cI, cap, .inl fb)), (v0, .inl (cJ, cap, .inr (.inl fv))), (q_1, .inr (2, [.ref a17, .ref b17, .ref v17, .int (nI (tn3 + 1))])), (a17, .inl (cI, cap17, .inl fa17)), (b17, .inl (cI, cap17, .inl fb17)), (v17, .inl (cJ, cap17, .inr (.inl fv17)))] H := hP.sub [0, 1, 2, 3, 4, 5, 6, 7, 8] rfl
                  have hD : va_D A [(y, .inr (3, [.ref r0, .ref r1, .ref r2, .ref r3, .ref r4, .ref r5, .ref wd, .ref tp, .int (nI wm), .int (nI tm)])), (r3, .inr (2, [.ref a0, .ref b0, .ref v0, .int (nI n)])), (a0, .inl (cI, cap, .inl fa)), (b0, .inl (cI, cap, .inl fb)), (v0, .inl (cJ, cap, .inr (.inl fv))), (q_1, .inr (2, [.ref a17, .ref b17, .ref v17, .int (nI (tn3 + 1))])), (a17, .inl (cI, cap17, .inl fa17)), (b17, .inl (cI, cap17, .inl fb17)), (v17, .inl (cJ, cap17, .inr (.inl fv17)))] := hD.sub [0, 1, 2, 3, 4, 5, 6, 7, 8] (by decide) rfl
                  obtain ⟨had, hca, hcb, hcc, hcd⟩ := hr_15
                  have hth := thn_yes (l := (rl n fa fb fv)) (fa := fa) (fb := fb) (t := 9 * k + 3 * i + j) (by rw [hxe, hye, ← hT3]; exact ⟨hok, fun q => q.elim fun e h => hnf e h.1 h.2⟩)
                  rw [hxe, hye, ← hT3] at hth
                  have hTn := had.trans hth.symm
                  refine lv_iinc (v := off (j + 1)) (lv' := [(4, .int (off (j + 1))), (7, .int (nI (arK (mP (rl n fa fb fv) ((fa k) + (off i)) ((fb k) + (off j))) 9))), (6, .int ((fb k) + (off j))), (5, .int ((fa k) + (off i))), (0, .ref y), (1, .ref q_1), (2, .int (nI k)), (3, .int (off i))]) hx hb dX3_step_134 hl (k := 7) rfl (off_s j) (by decide) rfl (fun ls hl => ?_)
                  refine lv_goto (tgt := 45) hx hb dX3_step_137 (by decide) ?_
                  exact ih3 ((j + 1, a17, b17, v17, cap17, tn3 + 1, fa17, fb17, fv17)) _ _ _ _ _ ⟨hP, hD, hS, lv_sub hl [4, 5, 6, 7, 0] rfl, by omega, hTn, ⟨hca, hcb, by omega⟩, by rcases hcc with z | z <;> split <;> omega, by omega⟩ (by first | omega | (dsimp only; omega))
              · refine lv_if_lt (tgt := 134) hx hb dX3_step_111 (by decide) (fun _ => ?_) (fun q => absurd (by decide) q)
                have hth : thn (rl n fa fb fv) fa fb (9 * k + 3 * i + j + 1) = thn (rl n fa fb fv) fa fb (9 * k + 3 * i + j) := thn_no (by rw [hxe, hye]; exact fun q => q.1.elim (fun z => c_91 z) (fun z => z.2.elim fun e h => hnf e h.1 h.2))
                refine lv_iinc (v := off (j + 1)) (lv' := [(4, .int (off (j + 1))), (7, .int (nI (arK (mP (rl n fa fb fv) ((fa k) + (off i)) ((fb k) + (off j))) 9))), (6, .int ((fb k) + (off j))), (5, .int ((fa k) + (off i))), (0, .ref y), (1, .ref q_1), (2, .int (nI k)), (3, .int (off i))]) hx hb dX3_step_134 hl (k := 7) rfl (off_s j) (by decide) rfl (fun ls hl => ?_)
                refine lv_goto (tgt := 45) hx hb dX3_step_137 (by decide) ?_
                exact ih3 ((j + 1, ta3, tb3, tv3, tcap3, tn3, tfa3, tfb3, tfv3)) _ _ _ _ _ ⟨hP, hD, hS, lv_sub hl [4, 5, 6, 7, 0] rfl, by omega, hT3.trans hth.symm, hR3, hC3, hZ3⟩ (by first | omega | (dsimp only; omega))
  · refine lv_iconst (v := (-1)) hx hb dX3_step_12 (by decide) ?_
    refine W.widen (k := 2200) (n := 13300) (by omega) (by omega) ?_
    exact W.iret (v := (-1)) hx hb hr (fun t ht hW => ⟨⟨(-1), (a0, b0, v0, cap, n, fa, fb, fv), rfl, ⟨⟨hn, h16, hc⟩, Or.inl ⟨c_9, rfl, rfl⟩⟩, by rw [ht]; exact hP, va_K.moved hW.alike hK, hD⟩, hS.F ht⟩) hS.2.2 dX3_step_13
