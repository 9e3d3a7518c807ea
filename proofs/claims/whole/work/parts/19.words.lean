/-! the model: words -/
set_option maxHeartbeats 4000000 in
set_option maxRecDepth 100000 in
theorem c_X3_sign (l : Launch) (D : va_G) (cI cJ : ClassId) (y r0 r1 r2 r3 r4 r5 wd tp wm tm : Nat) (ft : Nat → Int32) (htm : tm ≤ 12) (lt : Int32) (sz : Nat) : Met l yX3_sign wsX3_sign { frames := 0, cells := 0, slots := 0, locals := 0 } (va_Pc [.ref y, .int lt] (wP D cI cJ [(y, .inr (3, [.ref r0, .ref r1, .ref r2, .ref r3, .ref r4, .ref r5, .ref wd, .ref tp, .int (nI wm), .int (nI tm)])), (tp, .inl (cI, 12, .inl ft))] sz)) (va_Qi (fun r (u : (Nat → Int32) × Nat) => (¬ (nI 97 ≤ lt ∧ lt ≤ nI 122) ∧ r = (-1) ∧ u = (ft, tm)) ∨ ((nI 97 ≤ lt ∧ lt ≤ nI 122) ∧ ((tm = 12 ∧ r = (-3) ∧ u = (ft, tm)) ∨ (tm < 12 ∧ r = nI (tm + 1) ∧ u = (upd ft tm lt, tm + 1))))) (wB D cI cJ (va_A [(y, .inr (3, [.ref r0, .ref r1, .ref r2, .ref r3, .ref r4, .ref r5, .ref wd, .ref tp, .int (nI wm), .int (nI tm)])), (tp, .inl (cI, 12, .inl ft))] sz) (fun (ft', tm') => [(y, .inr (3, [.ref r0, .ref r1, .ref r2, .ref r3, .ref r4, .ref r5, .ref wd, .ref tp, .int (nI wm), .int (nI tm')])), (tp, .inl (cI, 12, .inl ft'))])) (va_A [(y, .inr (3, [.ref r0, .ref r1, .ref r2, .ref r3, .ref r4, .ref r5, .ref wd, .ref tp, .int (nI wm), .int (nI tm)])), (tp, .inl (cI, 12, .inl ft))] sz)) 0 0 (va_A [(y, .inr (3, [.ref r0, .ref r1, .ref r2, .ref r3, .ref r4, .ref r5, .ref wd, .ref tp, .int (nI wm), .int (nI tm)])), (tp, .inl (cI, 12, .inl ft))] sz) := by
  refine Met.ofW (cc := cX3_sign) (maxL := 2) (ret := (some .int)) (by decide) rfl ?_
  intro p e s m args below meth c s₁ B hml hv
  obtain ⟨rfl, hsz, hP, hK, hD0⟩ := hv
  have hx := B.exec
  have hb := B.bytes
  have hr := B.returns
  have hts := atoms_spec (ws := wsX3_sign) B.pre
  have hown : s.vm.findClass RX3 = some m.cls := findClass_of_methodNamed B.named
  have hlocks := B.notSynchronized
  have lk0 := hts (.fieldLink RX3 82 "KeyHallModel" "tapeMany" "I") (by decide +kernel)
  have lk1 : ∀ w ∈ wsX30, w ∈ wsX3_sign := by decide +kernel
  have lk2 := hts (.fieldLink RX3 35 "KeyHallModel" "tape" "[I") (by decide +kernel)
  subst hsz
  have hD := hD0.self (sz := s.heap.size)
  generalize hAe : va_A [(y, .inr (3, [.ref r0, .ref r1, .ref r2, .ref r3, .ref r4, .ref r5, .ref wd, .ref tp, .int (nI wm), .int (nI tm)])), (tp, .inl (cI, 12, .inl ft))] s.heap.size = A at hD ⊢
  have hA : ∀ q : Nat, s.heap.size ≤ q → A q := fun q h => by rw [← hAe]; exact Or.inr h
  have hS : va_S A s.heap s.heap [] := va_S.rf
  have hP : va_P D vwCl [(y, .inr (3, [.ref r0, .ref r1, .ref r2, .ref r3, .ref r4, .ref r5, .ref wd, .ref tp, .int (nI wm), .int (nI tm)])), (tp, .inl (cI, 12, .inl ft))] s.heap := hP
  have hl := lv_entry ([.ref y, .int lt]) (n := 2) (Nat.le_of_ble_eq_true rfl)
  rw [lg_entry_eq]
  generalize (lg_sl ([.ref y, .int lt]) ++ List.replicate (2 - (lg_sl ([.ref y, .int lt])).length) Slot.unset).toArray = ls at hl ⊢
  have hl : lv_has ls 2 [(0, .ref y), (1, .int lt)] := hl
  refine lv_iload_n hx hb dX3_sign_0 rfl (lv_at hl 1 rfl) ?_
  refine lv_bipush (v := nI 97) hx hb dX3_sign_1 (by decide) ?_
  refine lv_icmp_lt (tgt := 12) hx hb dX3_sign_3 (by decide) (fun c_3 => ?_) (fun c_3 => ?_)
  · refine lv_iconst (v := (-1)) hx hb dX3_sign_12 (by decide) ?_
    exact W.iret (v := (-1)) hx hb hr (fun t ht hW => ⟨⟨(-1), (ft, tm), rfl, Or.inl ⟨fun q => absurd c_3 (Int32.not_lt.mpr q.1), rfl, rfl⟩, by rw [ht]; exact hP, va_K.moved hW.alike hK, hD⟩, hS.F ht⟩) hS.2.2 dX3_sign_13
  · refine lv_iload_n hx hb dX3_sign_6 rfl (lv_at hl 1 rfl) ?_
    refine lv_bipush (v := nI 122) hx hb dX3_sign_7 (by decide) ?_
    refine lv_icmp_le (tgt := 14) hx hb dX3_sign_9 (by decide) (fun c_9 => ?_) (fun c_9 => ?_)
    · refine lv_aload_n hx hb dX3_sign_14 rfl (lv_at hl 0 rfl) ?_
      refine va_get (D := D) (ci := 3) (v := .int (nI tm)) (C := RX3) (T := TX3) (N := 10) hx hb hts lk1 hown hK hP 0 rfl rfl 9 (by decide) lk0 (fun _ h9 => h9) rfl dX3_sign_15 ?_
      refine lv_bipush (v := nI 12) hx hb dX3_sign_18 (by decide) ?_
      refine z_icmp_ne (tgt := 26) hx hb dX3_sign_20 (by decide) (by omega) (by omega) (fun c_20 => ?_) (fun c_20 => ?_)
      · refine lv_aload_n hx hb dX3_sign_26 rfl (lv_at hl 0 rfl) ?_
        refine va_get (D := D) (ci := 3) (v := .ref tp) (C := RX3) (T := TX3) (N := 10) hx hb hts lk1 hown hK hP 0 rfl rfl 7 (by decide) lk2 (fun _ h9 => h9) rfl dX3_sign_27 ?_
        refine lv_aload_n hx hb dX3_sign_30 rfl (lv_at hl 0 rfl) ?_
        refine va_get (D := D) (ci := 3) (v := .int (nI tm)) (C := RX3) (T := TX3) (N := 10) hx hb hts lk1 hown hK hP 0 rfl rfl 9 (by decide) lk0 (fun _ h9 => h9) rfl dX3_sign_31 ?_
        refine lv_iload_n hx hb dX3_sign_34 rfl (lv_at hl 1 rfl) ?_
        refine z_iast hx hb hK hP hD hS 1 rfl (j := tm) (by omega) (by omega) dX3_sign_35 (fun H locs hP hD hS => ?_)
        have hP : va_P D vwCl [(y, .inr (3, [.ref r0, .ref r1, .ref r2, .ref r3, .ref r4, .ref r5, .ref wd, .ref tp, .int (nI wm), .int (nI tm)])), (tp, .inl (cI, 12, .inl (upd ft tm lt)))] H := hP
        have hD : va_D A [(y, .inr (3, [.ref r0, .ref r1, .ref r2, .ref r3, .ref r4, .ref r5, .ref wd, .ref tp, .int (nI wm), .int (nI tm)])), (tp, .inl (cI, 12, .inl (upd ft tm lt)))] := hD
        refine lv_aload_n hx hb dX3_sign_36 rfl (lv_at hl 0 rfl) ?_
        refine lv_dup hx hb dX3_sign_37 rfl ?_
        refine va_get (D := D) (ci := 3) (v := .int (nI tm)) (C := RX3) (T := TX3) (N := 10) hx hb hts lk1 hown hK hP 0 rfl rfl 9 (by decide) lk0 (fun _ h9 => h9) rfl dX3_sign_38 ?_
        refine lv_iconst (v := nI 1) hx hb dX3_sign_41 (by decide) ?_
        refine z_iadd hx hb dX3_sign_42 ?_
        refine lv_dup_x1 hx hb dX3_sign_43 rfl rfl ?_
        refine va_put (D := D) (ci := 3) (v := .int (nI (tm + 1))) (ty := .int) (C := RX3) (T := TX3) (N := 10) hx hb hts lk1 tyX3 tyX3_ok nmX3 hown hK hP hD hS 0 rfl rfl 9 (by decide) lk0 (fun _ h9 => h9) rfl (by decide +kernel) rfl rfl (Nat.le_of_ble_eq_true rfl) dX3_sign_44 (fun H locs hP hD hS => ?_)
        have hP : va_P D vwCl [(y, .inr (3, [.ref r0, .ref r1, .ref r2, .ref r3, .ref r4, .ref r5, .ref wd, .ref tp, .int (nI wm), .int (nI (tm + 1))])), (tp, .inl (cI, 12, .inl (upd ft tm lt)))] H := hP
        have hD : va_D A [(y, .inr (3, [.ref r0, .ref r1, .ref r2, .ref r3, .ref r4, .ref r5, .ref wd, .ref tp, .int (nI wm), .int (nI (tm + 1))])), (tp, .inl (cI, 12, .inl (upd ft tm lt)))] := hD
        exact W.iret (v := nI (tm + 1)) hx hb hr (fun t ht hW => ⟨⟨nI (tm + 1), (upd ft tm lt, tm + 1), rfl, Or.inr ⟨⟨Int32.not_lt.mp c_3, c_9⟩, Or.inr ⟨by omega, rfl, rfl⟩⟩, by rw [ht]; exact hP, va_K.moved hW.alike hK, hD⟩, hS.F ht⟩) hS.2.2 dX3_sign_47
      · refine lv_bipush (v := (-3)) hx hb dX3_sign_23 (by decide) ?_
        exact W.iret (v := (-3)) hx hb hr (fun t ht hW => ⟨⟨(-3), (ft, tm), rfl, Or.inr ⟨⟨Int32.not_lt.mp c_3, c_9⟩, Or.inl ⟨c_20, rfl, rfl⟩⟩, by rw [ht]; exact hP, va_K.moved hW.alike hK, hD⟩, hS.F ht⟩) hS.2.2 dX3_sign_25
    · refine lv_iconst (v := (-1)) hx hb dX3_sign_12 (by decide) ?_
      exact W.iret (v := (-1)) hx hb hr (fun t ht hW => ⟨⟨(-1), (ft, tm), rfl, Or.inl ⟨fun q => c_9 q.2, rfl, rfl⟩, by rw [ht]; exact hP, va_K.moved hW.alike hK, hD⟩, hS.F ht⟩) hS.2.2 dX3_sign_13

set_option maxHeartbeats 4000000 in
set_option maxRecDepth 100000 in
theorem c_X3_erase (l : Launch) (D : va_G) (cI cJ : ClassId) (y r0 r1 r2 r3 r4 r5 wd tp wm tm : Nat) (sz : Nat) : Met l yX3_erase wsX3_erase { frames := 0, cells := 0, slots := 0, locals := 0 } (va_Pc [.ref y] (wP D cI cJ [(y, .inr (3, [.ref r0, .ref r1, .ref r2, .ref r3, .ref r4, .ref r5, .ref wd, .ref tp, .int (nI wm), .int (nI tm)]))] sz)) (va_Qi (fun r (u : Unit) => r = nI tm) (wB D cI cJ (va_A [(y, .inr (3, [.ref r0, .ref r1, .ref r2, .ref r3, .ref r4, .ref r5, .ref wd, .ref tp, .int (nI wm), .int (nI tm)]))] sz) (fun _ => [(y, .inr (3, [.ref r0, .ref r1, .ref r2, .ref r3, .ref r4, .ref r5, .ref wd, .ref tp, .int (nI wm), .int (nI 0)]))])) (va_A [(y, .inr (3, [.ref r0, .ref r1, .ref r2, .ref r3, .ref r4, .ref r5, .ref wd, .ref tp, .int (nI wm), .int (nI tm)]))] sz)) 0 0 (va_A [(y, .inr (3, [.ref r0, .ref r1, .ref r2, .ref r3, .ref r4, .ref r5, .ref wd, .ref tp, .int (nI wm), .int (nI tm)]))] sz) := by
  refine Met.ofW (cc := cX3_erase) (maxL := 2) (ret := (some .int)) (by decide) rfl ?_
  intro p e s m args below meth c s₁ B hml hv
  obtain ⟨rfl, hsz, hP, hK, hD0⟩ := hv
  have hx := B.exec
  have hb := B.bytes
  have hr := B.returns
  have hts := atoms_spec (ws := wsX3_erase) B.pre
  have hown : s.vm.findClass RX3 = some m.cls := findClass_of_methodNamed B.named
  have hlocks := B.notSynchronized
  have lk0 := hts (.fieldLink RX3 82 "KeyHallModel" "tapeMany" "I") (by decide +kernel)
  have lk1 : ∀ w ∈ wsX30, w ∈ wsX3_erase := by decide +kernel
  subst hsz
  have hD := hD0.self (sz := s.heap.size)
  generalize hAe : va_A [(y, .inr (3, [.ref r0, .ref r1, .ref r2, .ref r3, .ref r4, .ref r5, .ref wd, .ref tp, .int (nI wm), .int (nI tm)]))] s.heap.size = A at hD ⊢
  have hA : ∀ q : Nat, s.heap.size ≤ q → A q := fun q h => by rw [← hAe]; exact Or.inr h
  have hS : va_S A s.heap s.heap [] := va_S.rf
  have hP : va_P D vwCl [(y, .inr (3, [.ref r0, .ref r1, .ref r2, .ref r3, .ref r4, .ref r5, .ref wd, .ref tp, .int (nI wm), .int (nI tm)]))] s.heap := hP
  have hl := lv_entry ([.ref y]) (n := 2) (Nat.le_of_ble_eq_true rfl)
  rw [lg_entry_eq]
  generalize (lg_sl ([.ref y]) ++ List.replicate (2 - (lg_sl ([.ref y])).length) Slot.unset).toArray = ls at hl ⊢
  have hl : lv_has ls 2 [(0, .ref y)] := hl
  refine lv_aload_n hx hb dX3_erase_0 rfl (lv_at hl 0 rfl) ?_
  refine va_get (D := D) (ci := 3) (v := .int (nI tm)) (C := RX3) (T := TX3) (N := 10) hx hb hts lk1 hown hK hP 0 rfl rfl 9 (by decide) lk0 (fun _ h9 => h9) rfl dX3_erase_1 ?_
  refine lv_istore_n (lv' := [(1, .int (nI tm)), (0, .ref y)]) hx hb dX3_erase_4 rfl hl (by decide) rfl (fun ls hl => ?_)
  refine lv_aload_n hx hb dX3_erase_5 rfl (lv_at hl 1 rfl) ?_
  refine lv_iconst (v := nI 0) hx hb dX3_erase_6 (by decide) ?_
  refine va_put (D := D) (ci := 3) (v := .int (nI 0)) (ty := .int) (C := RX3) (T := TX3) (N := 10) hx hb hts lk1 tyX3 tyX3_ok nmX3 hown hK hP hD hS 0 rfl rfl 9 (by decide) lk0 (fun _ h9 => h9) rfl (by decide +kernel) rfl rfl (Nat.le_of_ble_eq_true rfl) dX3_erase_7 (fun H locs hP hD hS => ?_)
  have hP : va_P D vwCl [(y, .inr (3, [.ref r0, .ref r1, .ref r2, .ref r3, .ref r4, .ref r5, .ref wd, .ref tp, .int (nI wm), .int (nI 0)]))] H := hP
  have hD : va_D A [(y, .inr (3, [.ref r0, .ref r1, .ref r2, .ref r3, .ref r4, .ref r5, .ref wd, .ref tp, .int (nI wm), .int (nI 0)]))] := hD
  refine lv_iload_n hx hb dX3_erase_10 rfl (lv_at hl 0 rfl) ?_
  exact W.iret (v := nI tm) hx hb hr (fun t ht hW => ⟨⟨nI tm, (), rfl, rfl, by rw [ht]; exact hP, va_K.moved hW.alike hK, hD⟩, hS.F ht⟩) hS.2.2 dX3_erase_11

set_option maxHeartbeats 4000000 in
set_option maxRecDepth 100000 in
theorem c_X3_letter (l : Launch) (D : va_G) (cI cJ : ClassId) (y r0 r1 r2 r3 r4 r5 wd tp wm tm : Nat) (ft : Nat → Int32) (htm : tm ≤ 12) (k : Int32) : Met l yX3_letter wsX3_letter { frames := 0, cells := 0, slots := 0, locals := 0 } (va_Pc [.ref y, .int k] (rP D cI cJ [(y, .inr (3, [.ref r0, .ref r1, .ref r2, .ref r3, .ref r4, .ref r5, .ref wd, .ref tp, .int (nI wm), .int (nI tm)])), (tp, .inl (cI, 12, .inl ft))])) (vp_Si (fun r => (∃ j, k = nI j ∧ j < tm ∧ r = ft j) ∨ (¬ (¬ k < 0 ∧ ¬ nI tm ≤ k) ∧ r = (-1)))) 0 0 (fun _ => False) := by
  refine Met.ofW (cc := cX3_letter) (maxL := 2) (ret := (some .int)) (by decide) rfl ?_
  intro p e s m args below meth c s₁ B hml hv
  obtain ⟨rfl, hP, hK⟩ := hv
  have hx := B.exec
  have hb := B.bytes
  have hr := B.returns
  have hts := atoms_spec (ws := wsX3_letter) B.pre
  have hown : s.vm.findClass RX3 = some m.cls := findClass_of_methodNamed B.named
  have hlocks := B.notSynchronized
  have lk0 := hts (.fieldLink RX3 82 "KeyHallModel" "tapeMany" "I") (by decide +kernel)
  have lk1 : ∀ w ∈ wsX30, w ∈ wsX3_letter := by decide +kernel
  have lk2 := hts (.fieldLink RX3 35 "KeyHallModel" "tape" "[I") (by decide +kernel)
  have hl := lv_entry ([.ref y, .int k]) (n := 2) (Nat.le_of_ble_eq_true rfl)
  rw [lg_entry_eq]
  generalize (lg_sl ([.ref y, .int k]) ++ List.replicate (2 - (lg_sl ([.ref y, .int k])).length) Slot.unset).toArray = ls at hl ⊢
  have hl : lv_has ls 2 [(0, .ref y), (1, .int k)] := hl
  refine lv_iload_n hx hb dX3_letter_0 rfl (lv_at hl 1 rfl) ?_
  refine lv_if_lt (tgt := 12) hx hb dX3_letter_1 (by decide) (fun c_1 => ?_) (fun c_1 => ?_)
  · refine lv_iconst (v := (-1)) hx hb dX3_letter_12 (by decide) ?_
    refine lv_goto (tgt := 22) hx hb dX3_letter_13 (by decide) ?_
    exact W.iret (v := (-1)) hx hb hr (fun t ht hW => ⟨(-1), rfl, Or.inr ⟨fun q => q.1 c_1, rfl⟩, ht⟩) (fun _ h => nomatch h) dX3_letter_22
  · refine lv_iload_n hx hb dX3_letter_4 rfl (lv_at hl 1 rfl) ?_
    refine lv_aload_n hx hb dX3_letter_5 rfl (lv_at hl 0 rfl) ?_
    refine va_get (D := D) (ci := 3) (v := .int (nI tm)) (C := RX3) (T := TX3) (N := 10) hx hb hts lk1 hown hK hP 0 rfl rfl 9 (by decide) lk0 (fun _ h9 => h9) rfl dX3_letter_6 ?_
    refine lv_icmp_lt (tgt := 16) hx hb dX3_letter_9 (by decide) (fun c_9 => ?_) (fun c_9 => ?_)
    · obtain ⟨j, hj, rfl⟩ := ix_of c_1 (Int32.not_le.mpr c_9) (by omega)
      refine lv_aload_n hx hb dX3_letter_16 rfl (lv_at hl 0 rfl) ?_
      refine va_get (D := D) (ci := 3) (v := .ref tp) (C := RX3) (T := TX3) (N := 10) hx hb hts lk1 hown hK hP 0 rfl rfl 7 (by decide) lk2 (fun _ h9 => h9) rfl dX3_letter_17 ?_
      refine lv_iload_n hx hb dX3_letter_20 rfl (lv_at hl 1 rfl) ?_
      refine z_iald hx hb hK hP 1 rfl (j := j) (by omega) (by omega) dX3_letter_21 ?_
      exact W.iret (v := ft j) hx hb hr (fun t ht hW => ⟨ft j, rfl, Or.inl ⟨j, rfl, hj, rfl⟩, ht⟩) (fun _ h => nomatch h) dX3_letter_22
    · refine lv_iconst (v := (-1)) hx hb dX3_letter_12 (by decide) ?_
      refine lv_goto (tgt := 22) hx hb dX3_letter_13 (by decide) ?_
      exact W.iret (v := (-1)) hx hb hr (fun t ht hW => ⟨(-1), rfl, Or.inr ⟨fun q => q.2 (Int32.not_lt.mp c_9), rfl⟩, ht⟩) (fun _ h => nomatch h) dX3_letter_22

set_option maxHeartbeats 4000000 in
set_option maxRecDepth 100000 in
theorem c_X3_signOf (l : Launch) (D : va_G) (cI cJ : ClassId) (y r0 r1 r2 r3 r4 r5 wd tp wm tm : Nat) (wc : Nat) (fw : Nat → Int32) (wi k : Nat) (hk : 12 * wi + k < wc) (hwc2 : wc ≤ 1176) : Met l yX3_signOf wsX3_signOf { frames := 0, cells := 0, slots := 0, locals := 0 } (va_Pc [.ref y, .int (nI wi), .int (nI k)] (rP D cI cJ [(y, .inr (3, [.ref r0, .ref r1, .ref r2, .ref r3, .ref r4, .ref r5, .ref wd, .ref tp, .int (nI wm), .int (nI tm)])), (wd, .inl (cI, wc, .inl fw))])) (vp_Si (fun r => r = wF fw wi k)) 0 0 (fun _ => False) := by
  refine Met.ofW (cc := cX3_signOf) (maxL := 3) (ret := (some .int)) (by decide) rfl ?_
  intro p e s m args below meth c s₁ B hml hv
  obtain ⟨rfl, hP, hK⟩ := hv
  have hx := B.exec
  have hb := B.bytes
  have hr := B.returns
  have hts := atoms_spec (ws := wsX3_signOf) B.pre
  have hown : s.vm.findClass RX3 = some m.cls := findClass_of_methodNamed B.named
  have hlocks := B.notSynchronized
  have lk0 := hts (.fieldLink RX3 31 "KeyHallModel" "words" "[I") (by decide +kernel)
  have lk1 : ∀ w ∈ wsX30, w ∈ wsX3_signOf := by decide +kernel
  have hl := lv_entry ([.ref y, .int (nI wi), .int (nI k)]) (n := 3) (Nat.le_of_ble_eq_true rfl)
  rw [lg_entry_eq]
  generalize (lg_sl ([.ref y, .int (nI wi), .int (nI k)]) ++ List.replicate (3 - (lg_sl ([.ref y, .int (nI wi), .int (nI k)])).length) Slot.unset).toArray = ls at hl ⊢
  have hl : lv_has ls 3 [(0, .ref y), (1, .int (nI wi)), (2, .int (nI k))] := hl
  refine lv_aload_n hx hb dX3_signOf_0 rfl (lv_at hl 0 rfl) ?_
  refine va_get (D := D) (ci := 3) (v := .ref wd) (C := RX3) (T := TX3) (N := 10) hx hb hts lk1 hown hK hP 0 rfl rfl 6 (by decide) lk0 (fun _ h9 => h9) rfl dX3_signOf_1 ?_
  refine lv_bipush (v := nI 12) hx hb dX3_signOf_4 (by decide) ?_
  refine lv_iload_n hx hb dX3_signOf_6 rfl (lv_at hl 1 rfl) ?_
  refine z_imul hx hb dX3_signOf_7 ?_
  refine lv_iload_n hx hb dX3_signOf_8 rfl (lv_at hl 2 rfl) ?_
  refine z_iadd hx hb dX3_signOf_9 ?_
  refine z_iald hx hb hK hP 1 rfl (j := 12 * wi + k) (by omega) (by omega) dX3_signOf_10 ?_
  exact W.iret (v := fw (12 * wi + k)) hx hb hr (fun t ht hW => ⟨fw (12 * wi + k), rfl, rfl, ht⟩) (fun _ h => nomatch h) dX3_signOf_11

set_option maxHeartbeats 4000000 in
set_option maxRecDepth 100000 in
theorem c_X3_tapeSign (l : Launch) (D : va_G) (cI cJ : ClassId) (y r0 r1 r2 r3 r4 r5 wd tp wm tm : Nat) (ft : Nat → Int32) (htm : tm ≤ 12) (k : Nat) (hk : k < 12) : Met l yX3_tapeSign wsX3_tapeSign { frames := 0, cells := 0, slots := 0, locals := 0 } (va_Pc [.ref y, .int (nI k)] (rP D cI cJ [(y, .inr (3, [.ref r0, .ref r1, .ref r2, .ref r3, .ref r4, .ref r5, .ref wd, .ref tp, .int (nI wm), .int (nI tm)])), (tp, .inl (cI, 12, .inl ft))])) (vp_Si (fun r => r = tS tm ft k)) 0 0 (fun _ => False) := by
  refine Met.ofW (cc := cX3_tapeSign) (maxL := 2) (ret := (some .int)) (by decide) rfl ?_
  intro p e s m args below meth c s₁ B hml hv
  obtain ⟨rfl, hP, hK⟩ := hv
  have hx := B.exec
  have hb := B.bytes
  have hr := B.returns
  have hts := atoms_spec (ws := wsX3_tapeSign) B.pre
  have hown : s.vm.findClass RX3 = some m.cls := findClass_of_methodNamed B.named
  have hlocks := B.notSynchronized
  have lk0 := hts (.fieldLink RX3 82 "KeyHallModel" "tapeMany" "I") (by decide +kernel)
  have lk1 : ∀ w ∈ wsX30, w ∈ wsX3_tapeSign := by decide +kernel
  have lk2 := hts (.fieldLink RX3 35 "KeyHallModel" "tape" "[I") (by decide +kernel)
  have hl := lv_entry ([.ref y, .int (nI k)]) (n := 2) (Nat.le_of_ble_eq_true rfl)
  rw [lg_entry_eq]
  generalize (lg_sl ([.ref y, .int (nI k)]) ++ List.replicate (2 - (lg_sl ([.ref y, .int (nI k)])).length) Slot.unset).toArray = ls at hl ⊢
  have hl : lv_has ls 2 [(0, .ref y), (1, .int (nI k))] := hl
  refine lv_iload_n hx hb dX3_tapeSign_0 rfl (lv_at hl 1 rfl) ?_
  refine lv_aload_n hx hb dX3_tapeSign_1 rfl (lv_at hl 0 rfl) ?_
  refine va_get (D := D) (ci := 3) (v := .int (nI tm)) (C := RX3) (T := TX3) (N := 10) hx hb hts lk1 hown hK hP 0 rfl rfl 9 (by decide) lk0 (fun _ h9 => h9) rfl dX3_tapeSign_2 ?_
  refine z_icmp_ge (tgt := 17) hx hb dX3_tapeSign_5 (by decide) (by omega) (by omega) (fun c_5 => ?_) (fun c_5 => ?_)
  · refine lv_iconst (v := nI 0) hx hb dX3_tapeSign_17 (by decide) ?_
    exact W.iret (v := nI 0) hx hb hr (fun t ht hW => ⟨nI 0, rfl, (tS_f c_5).symm, ht⟩) (fun _ h => nomatch h) dX3_tapeSign_18
  · refine lv_aload_n hx hb dX3_tapeSign_8 rfl (lv_at hl 0 rfl) ?_
    refine va_get (D := D) (ci := 3) (v := .ref tp) (C := RX3) (T := TX3) (N := 10) hx hb hts lk1 hown hK hP 0 rfl rfl 7 (by decide) lk2 (fun _ h9 => h9) rfl dX3_tapeSign_9 ?_
    refine lv_iload_n hx hb dX3_tapeSign_12 rfl (lv_at hl 1 rfl) ?_
    refine z_iald hx hb hK hP 1 rfl (j := k) (by omega) (by omega) dX3_tapeSign_13 ?_
    refine lv_goto (tgt := 18) hx hb dX3_tapeSign_14 (by decide) ?_
    exact W.iret (v := ft k) hx hb hr (fun t ht hW => ⟨ft k, rfl, (tS_t c_5).symm, ht⟩) (fun _ h => nomatch h) dX3_tapeSign_18

set_option maxHeartbeats 4000000 in
set_option maxRecDepth 100000 in
theorem c_X3_against (l : Launch) (D : va_G) (cI cJ : ClassId) (y r0 r1 r2 r3 r4 r5 wd tp wm tm : Nat) (wc : Nat) (fw ft : Nat → Int32) (wi : Nat) (hwi : 12 * wi + 12 ≤ wc) (hwc2 : wc ≤ 1176) (htm : tm ≤ 12) : Met l yX3_against wsX3_against { frames := 1, cells := 0, slots := 0, locals := 22 } (va_Pc [.ref y, .int (nI wi)] (rP D cI cJ [(y, .inr (3, [.ref r0, .ref r1, .ref r2, .ref r3, .ref r4, .ref r5, .ref wd, .ref tp, .int (nI wm), .int (nI tm)])), (wd, .inl (cI, wc, .inl fw)), (tp, .inl (cI, 12, .inl ft))])) (vp_Si (fun r => AgR (vW (wF fw wi)) (vW (tS tm ft)) r)) 0 0 (fun _ => False) := by
  refine Met.ofW (cc := cX3_against) (maxL := 3) (ret := (some .int)) (by decide) rfl ?_
  intro p e s m args below meth c s₁ B hml hv
  obtain ⟨rfl, hP, hK⟩ := hv
  have hx := B.exec
  have hb := B.bytes
  have hr := B.returns
  have hts := atoms_spec (ws := wsX3_against) B.pre
  have hown : s.vm.findClass RX3 = some m.cls := findClass_of_methodNamed B.named
  have hlocks := B.notSynchronized
  have hl := lv_entry ([.ref y, .int (nI wi)]) (n := 3) (Nat.le_of_ble_eq_true rfl)
  rw [lg_entry_eq]
  generalize (lg_sl ([.ref y, .int (nI wi)]) ++ List.replicate (3 - (lg_sl ([.ref y, .int (nI wi)])).length) Slot.unset).toArray = ls at hl ⊢
  have hl : lv_has ls 3 [(0, .ref y), (1, .int (nI wi))] := hl
  refine lv_iconst (v := nI 0) hx hb dX3_against_0 (by decide) ?_
  refine lv_istore_n (lv' := [(2, .int (nI 0)), (0, .ref y), (1, .int (nI wi))]) hx hb dX3_against_1 rfl hl (by decide) rfl (fun ls hl => ?_)
  refine z_loop (σ := Nat) (fun i => 12 - i) (fun i ls => lv_has ls 3 [(0, .ref y), (1, .int (nI wi)), (2, .int (nI i))] ∧ (i ≤ 12) ∧ (∀ j, j < i → wF fw wi j = tS tm ft j)) ?_ (0) _ ⟨lv_sub hl [1, 2, 0] rfl, by decide, fun j h => absurd h (Nat.not_lt_zero j)⟩
  rintro i ls ⟨hl, hi, h1⟩ ih
  have hl : lv_has ls 3 [(0, .ref y), (1, .int (nI wi)), (2, .int (nI i))] := hl
  refine lv_iload_n hx hb dX3_against_2 rfl (lv_at hl 2 rfl) ?_
  refine lv_bipush (v := nI 12) hx hb dX3_against_3 (by decide) ?_
  refine z_icmp_ge (tgt := 48) hx hb dX3_against_5 (by decide) (by omega) (by omega) (fun c_5 => ?_) (fun c_5 => ?_)
  · refine lv_iconst (v := nI 0) hx hb dX3_against_48 (by decide) ?_
    exact W.iret (v := nI 0) hx hb hr (fun t ht hW => ⟨nI 0, rfl, Or.inr (Or.inr ⟨vW_eq.mpr (fun k hk => h1 k (by omega)), rfl⟩), ht⟩) (fun _ h => nomatch h) dX3_against_49
  · refine lv_aload_n hx hb dX3_against_8 rfl (lv_at hl 0 rfl) ?_
    refine lv_iload_n hx hb dX3_against_9 rfl (lv_at hl 1 rfl) ?_
    refine lv_iload_n hx hb dX3_against_10 rfl (lv_at hl 2 rfl) ?_
    refine vp_callSi (va_Run.run (va_runV (As := [.int (nI wi), .int (nI i)]) (rest := []) ⟨hx, hb, hml, hown, hts⟩ (c_X3_signOf l D cI cJ y r0 r1 r2 r3 r4 r5 wd tp wm tm wc fw wi i (by omega) (by omega)) (cwV 2 hts gX3_against_X3_signOf rfl rfl rfl (by decide +kernel) ⟨Nat.le_of_ble_eq_true rfl, Nat.le_of_ble_eq_true rfl⟩) (z_preV hK hP [0, 1] rfl 3 0 rfl rfl) rfl rfl hl.1 rfl (lv_room (Nat.le_of_ble_eq_true rfl)) dX3_against_11 ⟨Nat.zero_le _, Nat.zero_le _⟩)) (fun r_1 hr_1 => ?_)
    replace hr_1 := hr_1.symm
    subst hr_1
    refine lv_aload_n hx hb dX3_against_14 rfl (lv_at hl 0 rfl) ?_
    refine lv_iload_n hx hb dX3_against_15 rfl (lv_at hl 2 rfl) ?_
    refine vp_callSi (va_Run.run (va_runV (As := [.int (nI i)]) (rest := [.int (wF fw wi i)]) ⟨hx, hb, hml, hown, hts⟩ (c_X3_tapeSign l D cI cJ y r0 r1 r2 r3 r4 r5 wd tp wm tm ft (by omega) i (by omega)) (cwV 1 hts gX3_against_X3_tapeSign rfl rfl rfl (by decide +kernel) ⟨Nat.le_of_ble_eq_true rfl, Nat.le_of_ble_eq_true rfl⟩) (z_preV hK hP [0, 2] rfl 3 0 rfl rfl) rfl rfl hl.1 rfl (lv_room (Nat.le_of_ble_eq_true rfl)) dX3_against_16 ⟨Nat.zero_le _, Nat.zero_le _⟩)) (fun r_2 hr_2 => ?_)
    replace hr_2 := hr_2.symm
    subst hr_2
    refine lv_icmp_eq (tgt := 42) hx hb dX3_against_19 (by decide) (fun c_19 => ?_) (fun c_19 => ?_)
    · refine lv_iinc (v := nI (i + 1)) (lv' := [(2, .int (nI (i + 1))), (0, .ref y), (1, .int (nI wi))]) hx hb dX3_against_42 hl (k := 2) rfl (nI_add i 1) (by decide) rfl (fun ls hl => ?_)
      refine lv_goto (tgt := 2) hx hb dX3_against_45 (by decide) ?_
      exact ih (i + 1) _ ⟨lv_sub hl [1, 2, 0] rfl, by omega, lt_s1 h1 c_19⟩ (by first | omega | (dsimp only; omega))
    · refine lv_aload_n hx hb dX3_against_22 rfl (lv_at hl 0 rfl) ?_
      refine lv_iload_n hx hb dX3_against_23 rfl (lv_at hl 1 rfl) ?_
      refine lv_iload_n hx hb dX3_against_24 rfl (lv_at hl 2 rfl) ?_
      refine vp_callSi (va_Run.run (va_runV (As := [.int (nI wi), .int (nI i)]) (rest := []) ⟨hx, hb, hml, hown, hts⟩ (c_X3_signOf l D cI cJ y r0 r1 r2 r3 r4 r5 wd tp wm tm wc fw wi i (by omega) (by omega)) (cwV 2 hts gX3_against_X3_signOf rfl rfl rfl (by decide +kernel) ⟨Nat.le_of_ble_eq_true rfl, Nat.le_of_ble_eq_true rfl⟩) (z_preV hK hP [0, 1] rfl 3 0 rfl rfl) rfl rfl hl.1 rfl (lv_room (Nat.le_of_ble_eq_true rfl)) dX3_against_25 ⟨Nat.zero_le _, Nat.zero_le _⟩)) (fun r_3 hr_3 => ?_)
      replace hr_3 := hr_3.symm
      subst hr_3
      refine lv_aload_n hx hb dX3_against_28 rfl (lv_at hl 0 rfl) ?_
      refine lv_iload_n hx hb dX3_against_29 rfl (lv_at hl 2 rfl) ?_
      refine vp_callSi (va_Run.run (va_runV (As := [.int (nI i)]) (rest := [.int (wF fw wi i)]) ⟨hx, hb, hml, hown, hts⟩ (c_X3_tapeSign l D cI cJ y r0 r1 r2 r3 r4 r5 wd tp wm tm ft (by omega) i (by omega)) (cwV 1 hts gX3_against_X3_tapeSign rfl rfl rfl (by decide +kernel) ⟨Nat.le_of_ble_eq_true rfl, Nat.le_of_ble_eq_true rfl⟩) (z_preV hK hP [0, 2] rfl 3 0 rfl rfl) rfl rfl hl.1 rfl (lv_room (Nat.le_of_ble_eq_true rfl)) dX3_against_30 ⟨Nat.zero_le _, Nat.zero_le _⟩)) (fun r_4 hr_4 => ?_)
      replace hr_4 := hr_4.symm
      subst hr_4
      refine lv_icmp_ge (tgt := 40) hx hb dX3_against_33 (by decide) (fun c_33 => ?_) (fun c_33 => ?_)
      · refine lv_iconst (v := nI 1) hx hb dX3_against_40 (by decide) ?_
        exact W.iret (v := nI 1) hx hb hr (fun t ht hW => ⟨nI 1, rfl, Or.inr (Or.inl ⟨vW_lt (k := i) (by omega) (fun j hj => (h1 j hj).symm) (i32_tri c_19 (Int32.not_lt.mpr c_33)), rfl⟩), ht⟩) (fun _ h => nomatch h) dX3_against_41
      · refine lv_iconst (v := (-1)) hx hb dX3_against_36 (by decide) ?_
        refine lv_goto (tgt := 41) hx hb dX3_against_37 (by decide) ?_
        exact W.iret (v := (-1)) hx hb hr (fun t ht hW => ⟨(-1), rfl, Or.inl ⟨vW_lt (k := i) (by omega) h1 (Int32.not_le.mp c_33), rfl⟩, ht⟩) (fun _ h => nomatch h) dX3_against_41

set_option maxHeartbeats 4000000 in
set_option maxRecDepth 100000 in
theorem c_X3_before (l : Launch) (D : va_G) (cI cJ : ClassId) (y r0 r1 r2 r3 r4 r5 wd tp wm tm : Nat) (wc : Nat) (fw : Nat → Int32) (wi wj : Nat) (hwi : 12 * wi + 12 ≤ wc) (hwj : 12 * wj + 12 ≤ wc) (hwc2 : wc ≤ 1176) : Met l yX3_before wsX3_before { frames := 1, cells := 0, slots := 0, locals := 22 } (va_Pc [.ref y, .int (nI wi), .int (nI wj)] (rP D cI cJ [(y, .inr (3, [.ref r0, .ref r1, .ref r2, .ref r3, .ref r4, .ref r5, .ref wd, .ref tp, .int (nI wm), .int (nI tm)])), (wd, .inl (cI, wc, .inl fw))])) (vp_Si (fun r => (vW (wF fw wi) < vW (wF fw wj) ∧ r = nI 1) ∨ (¬ vW (wF fw wi) < vW (wF fw wj) ∧ r = nI 0))) 0 0 (fun _ => False) := by
  refine Met.ofW (cc := cX3_before) (maxL := 4) (ret := (some .boolean)) (by decide) rfl ?_
  intro p e s m args below meth c s₁ B hml hv
  obtain ⟨rfl, hP, hK⟩ := hv
  have hx := B.exec
  have hb := B.bytes
  have hr := B.returns
  have hts := atoms_spec (ws := wsX3_before) B.pre
  have hown : s.vm.findClass RX3 = some m.cls := findClass_of_methodNamed B.named
  have hlocks := B.notSynchronized
  have hl := lv_entry ([.ref y, .int (nI wi), .int (nI wj)]) (n := 4) (Nat.le_of_ble_eq_true rfl)
  rw [lg_entry_eq]
  generalize (lg_sl ([.ref y, .int (nI wi), .int (nI wj)]) ++ List.replicate (4 - (lg_sl ([.ref y, .int (nI wi), .int (nI wj)])).length) Slot.unset).toArray = ls at hl ⊢
  have hl : lv_has ls 4 [(0, .ref y), (1, .int (nI wi)), (2, .int (nI wj))] := hl
  refine lv_iconst (v := nI 0) hx hb dX3_before_0 (by decide) ?_
  refine lv_istore_n (lv' := [(3, .int (nI 0)), (0, .ref y), (1, .int (nI wi)), (2, .int (nI wj))]) hx hb dX3_before_1 rfl hl (by decide) rfl (fun ls hl => ?_)
  refine z_loop (σ := Nat) (fun i => 12 - i) (fun i ls => lv_has ls 4 [(0, .ref y), (1, .int (nI wi)), (2, .int (nI wj)), (3, .int (nI i))] ∧ (i ≤ 12) ∧ (∀ j, j < i → wF fw wi j = wF fw wj j)) ?_ (0) _ ⟨lv_sub hl [1, 2, 3, 0] rfl, by decide, fun j h => absurd h (Nat.not_lt_zero j)⟩
  rintro i ls ⟨hl, hi, h1⟩ ih
  have hl : lv_has ls 4 [(0, .ref y), (1, .int (nI wi)), (2, .int (nI wj)), (3, .int (nI i))] := hl
  refine lv_iload_n hx hb dX3_before_2 rfl (lv_at hl 3 rfl) ?_
  refine lv_bipush (v := nI 12) hx hb dX3_before_3 (by decide) ?_
  refine z_icmp_ge (tgt := 50) hx hb dX3_before_5 (by decide) (by omega) (by omega) (fun c_5 => ?_) (fun c_5 => ?_)
  · refine lv_iconst (v := nI 0) hx hb dX3_before_50 (by decide) ?_
    exact W.zret (v := nI 0) hx hb hr (by decide) (fun t ht hW => ⟨nI 0, rfl, Or.inr ⟨fun q => absurd (vW_eq.mpr (fun k hk => h1 k (by omega))) (Nat.ne_of_lt q), rfl⟩, ht⟩) (fun _ h => nomatch h) dX3_before_51
  · refine lv_aload_n hx hb dX3_before_8 rfl (lv_at hl 0 rfl) ?_
    refine lv_iload_n hx hb dX3_before_9 rfl (lv_at hl 1 rfl) ?_
    refine lv_iload_n hx hb dX3_before_10 rfl (lv_at hl 3 rfl) ?_
    refine vp_callSi (va_Run.run (va_runV (As := [.int (nI wi), .int (nI i)]) (rest := []) ⟨hx, hb, hml, hown, hts⟩ (c_X3_signOf l D cI cJ y r0 r1 r2 r3 r4 r5 wd tp wm tm wc fw wi i (by omega) (by omega)) (cwV 2 hts gX3_before_X3_signOf rfl rfl rfl (by decide +kernel) ⟨Nat.le_of_ble_eq_true rfl, Nat.le_of_ble_eq_true rfl⟩) (z_preV hK hP [0, 1] rfl 3 0 rfl rfl) rfl rfl hl.1 rfl (lv_room (Nat.le_of_ble_eq_true rfl)) dX3_before_11 ⟨Nat.zero_le _, Nat.zero_le _⟩)) (fun r_1 hr_1 => ?_)
    replace hr_1 := hr_1.symm
    subst hr_1
    refine lv_aload_n hx hb dX3_before_14 rfl (lv_at hl 0 rfl) ?_
    refine lv_iload_n hx hb dX3_before_15 rfl (lv_at hl 2 rfl) ?_
    refine lv_iload_n hx hb dX3_before_16 rfl (lv_at hl 3 rfl) ?_
    refine vp_callSi (va_Run.run (va_runV (As := [.int (nI wj), .int (nI i)]) (rest := [.int (wF fw wi i)]) ⟨hx, hb, hml, hown, hts⟩ (c_X3_signOf l D cI cJ y r0 r1 r2 r3 r4 r5 wd tp wm tm wc fw wj i (by omega) (by omega)) (cwV 2 hts gX3_before_X3_signOf rfl rfl rfl (by decide +kernel) ⟨Nat.le_of_ble_eq_true rfl, Nat.le_of_ble_eq_true rfl⟩) (z_preV hK hP [0, 1] rfl 3 0 rfl rfl) rfl rfl hl.1 rfl (lv_room (Nat.le_of_ble_eq_true rfl)) dX3_before_17 ⟨Nat.zero_le _, Nat.zero_le _⟩)) (fun r_2 hr_2 => ?_)
    replace hr_2 := hr_2.symm
    subst hr_2
    refine lv_icmp_eq (tgt := 44) hx hb dX3_before_20 (by decide) (fun c_20 => ?_) (fun c_20 => ?_)
    · refine lv_iinc (v := nI (i + 1)) (lv' := [(3, .int (nI (i + 1))), (0, .ref y), (1, .int (nI wi)), (2, .int (nI wj))]) hx hb dX3_before_44 hl (k := 3) rfl (nI_add i 1) (by decide) rfl (fun ls hl => ?_)
      refine lv_goto (tgt := 2) hx hb dX3_before_47 (by decide) ?_
      exact ih (i + 1) _ ⟨lv_sub hl [1, 2, 3, 0] rfl, by omega, lt_s1 h1 c_20⟩ (by first | omega | (dsimp only; omega))
    · refine lv_aload_n hx hb dX3_before_23 rfl (lv_at hl 0 rfl) ?_
      refine lv_iload_n hx hb dX3_before_24 rfl (lv_at hl 1 rfl) ?_
      refine lv_iload_n hx hb dX3_before_25 rfl (lv_at hl 3 rfl) ?_
      refine vp_callSi (va_Run.run (va_runV (As := [.int (nI wi), .int (nI i)]) (rest := []) ⟨hx, hb, hml, hown, hts⟩ (c_X3_signOf l D cI cJ y r0 r1 r2 r3 r4 r5 wd tp wm tm wc fw wi i (by omega) (by omega)) (cwV 2 hts gX3_before_X3_signOf rfl rfl rfl (by decide +kernel) ⟨Nat.le_of_ble_eq_true rfl, Nat.le_of_ble_eq_true rfl⟩) (z_preV hK hP [0, 1] rfl 3 0 rfl rfl) rfl rfl hl.1 rfl (lv_room (Nat.le_of_ble_eq_true rfl)) dX3_before_26 ⟨Nat.zero_le _, Nat.zero_le _⟩)) (fun r_3 hr_3 => ?_)
      replace hr_3 := hr_3.symm
      subst hr_3
      refine lv_aload_n hx hb dX3_before_29 rfl (lv_at hl 0 rfl) ?_
      refine lv_iload_n hx hb dX3_before_30 rfl (lv_at hl 2 rfl) ?_
      refine lv_iload_n hx hb dX3_before_31 rfl (lv_at hl 3 rfl) ?_
      refine vp_callSi (va_Run.run (va_runV (As := [.int (nI wj), .int (nI i)]) (rest := [.int (wF fw wi i)]) ⟨hx, hb, hml, hown, hts⟩ (c_X3_signOf l D cI cJ y r0 r1 r2 r3 r4 r5 wd tp wm tm wc fw wj i (by omega) (by omega)) (cwV 2 hts gX3_before_X3_signOf rfl rfl rfl (by decide +kernel) ⟨Nat.le_of_ble_eq_true rfl, Nat.le_of_ble_eq_true rfl⟩) (z_preV hK hP [0, 1] rfl 3 0 rfl rfl) rfl rfl hl.1 rfl (lv_room (Nat.le_of_ble_eq_true rfl)) dX3_before_32 ⟨Nat.zero_le _, Nat.zero_le _⟩)) (fun r_4 hr_4 => ?_)
      replace hr_4 := hr_4.symm
      subst hr_4
      refine lv_icmp_ge (tgt := 42) hx hb dX3_before_35 (by decide) (fun c_35 => ?_) (fun c_35 => ?_)
      · refine lv_iconst (v := nI 0) hx hb dX3_before_42 (by decide) ?_
        exact W.zret (v := nI 0) hx hb hr (by decide) (fun t ht hW => ⟨nI 0, rfl, Or.inr ⟨fun q => absurd (vW_lt (k := i) (by omega) (fun j hj => (h1 j hj).symm) (i32_tri c_20 (Int32.not_lt.mpr c_35))) (Nat.lt_asymm q), rfl⟩, ht⟩) (fun _ h => nomatch h) dX3_before_43
      · refine lv_iconst (v := nI 1) hx hb dX3_before_38 (by decide) ?_
        refine lv_goto (tgt := 43) hx hb dX3_before_39 (by decide) ?_
        exact W.zret (v := nI 1) hx hb hr (by decide) (fun t ht hW => ⟨nI 1, rfl, Or.inl ⟨vW_lt (k := i) (by omega) h1 (Int32.not_le.mp c_35), rfl⟩, ht⟩) (fun _ h => nomatch h) dX3_before_43

set_option maxHeartbeats 4000000 in
set_option maxRecDepth 100000 in
theorem c_X3_wordOfTape (l : Launch) (D : va_G) (cI cJ : ClassId) (y r0 r1 r2 r3 r4 r5 wd tp wm tm : Nat) (wc : Nat) (fw ft : Nat → Int32) (hwc : 12 * wm ≤ wc) (hwc2 : wc ≤ 1176) (htm : tm ≤ 12) : Met l yX3_wordOfTape wsX3_wordOfTape { frames := 2, cells := 0, slots := 0, locals := 44 } (va_Pc [.ref y] (rP D cI cJ [(y, .inr (3, [.ref r0, .ref r1, .ref r2, .ref r3, .ref r4, .ref r5, .ref wd, .ref tp, .int (nI wm), .int (nI tm)])), (wd, .inl (cI, wc, .inl fw)), (tp, .inl (cI, 12, .inl ft))])) (vp_Si (fun r => WtR wm fw (vW (tS tm ft)) r)) 0 0 (fun _ => False) := by
  refine Met.ofW (cc := cX3_wordOfTape) (maxL := 2) (ret := (some .int)) (by decide) rfl ?_
  intro p e s m args below meth c s₁ B hml hv
  obtain ⟨rfl, hP, hK⟩ := hv
  have hx := B.exec
  have hb := B.bytes
  have hr := B.returns
  have hts := atoms_spec (ws := wsX3_wordOfTape) B.pre
  have hown : s.vm.findClass RX3 = some m.cls := findClass_of_methodNamed B.named
  have hlocks := B.notSynchronized
  have lk0 := hts (.fieldLink RX3 92 "KeyHallModel" "wordMany" "I") (by decide +kernel)
  have lk1 : ∀ w ∈ wsX30, w ∈ wsX3_wordOfTape := by decide +kernel
  have hl := lv_entry ([.ref y]) (n := 2) (Nat.le_of_ble_eq_true rfl)
  rw [lg_entry_eq]
  generalize (lg_sl ([.ref y]) ++ List.replicate (2 - (lg_sl ([.ref y])).length) Slot.unset).toArray = ls at hl ⊢
  have hl : lv_has ls 2 [(0, .ref y)] := hl
  refine lv_iconst (v := nI 0) hx hb dX3_wordOfTape_0 (by decide) ?_
  refine lv_istore_n (lv' := [(1, .int (nI 0)), (0, .ref y)]) hx hb dX3_wordOfTape_1 rfl hl (by decide) rfl (fun ls hl => ?_)
  refine z_loop (σ := Nat) (fun i => wm - i) (fun i ls => lv_has ls 2 [(0, .ref y), (1, .int (nI i))] ∧ (i ≤ wm) ∧ (∀ w, w < i → vW (wF fw w) ≠ vW (tS tm ft))) ?_ (0) _ ⟨lv_sub hl [1, 0] rfl, Nat.zero_le _, fun j h => absurd h (Nat.not_lt_zero j)⟩
  rintro i ls ⟨hl, hi, h1⟩ ih
  have hl : lv_has ls 2 [(0, .ref y), (1, .int (nI i))] := hl
  refine lv_iload_n hx hb dX3_wordOfTape_2 rfl (lv_at hl 1 rfl) ?_
  refine lv_aload_n hx hb dX3_wordOfTape_3 rfl (lv_at hl 0 rfl) ?_
  refine va_get (D := D) (ci := 3) (v := .int (nI wm)) (C := RX3) (T := TX3) (N := 10) hx hb hts lk1 hown hK hP 0 rfl rfl 8 (by decide) lk0 (fun _ h9 => h9) rfl dX3_wordOfTape_4 ?_
  refine z_icmp_ge (tgt := 26) hx hb dX3_wordOfTape_7 (by decide) (by omega) (by omega) (fun c_7 => ?_) (fun c_7 => ?_)
  · refine lv_iconst (v := (-1)) hx hb dX3_wordOfTape_26 (by decide) ?_
    exact W.iret (v := (-1)) hx hb hr (fun t ht hW => ⟨(-1), rfl, Or.inr ⟨fun w hw => h1 w (by omega), rfl⟩, ht⟩) (fun _ h => nomatch h) dX3_wordOfTape_27
  · refine lv_aload_n hx hb dX3_wordOfTape_10 rfl (lv_at hl 0 rfl) ?_
    refine lv_iload_n hx hb dX3_wordOfTape_11 rfl (lv_at hl 1 rfl) ?_
    refine vp_callSi (va_Run.run (va_runV (As := [.int (nI i)]) (rest := []) ⟨hx, hb, hml, hown, hts⟩ (c_X3_against l D cI cJ y r0 r1 r2 r3 r4 r5 wd tp wm tm wc fw ft i (by omega) (by omega) (by omega)) (cwV 1 hts gX3_wordOfTape_X3_against rfl rfl rfl (by decide +kernel) ⟨Nat.le_of_ble_eq_true rfl, Nat.le_of_ble_eq_true rfl⟩) (z_preV hK hP [0, 1, 2] rfl 3 0 rfl rfl) rfl rfl hl.1 rfl (lv_room (Nat.le_of_ble_eq_true rfl)) dX3_wordOfTape_12 ⟨Nat.zero_le _, Nat.zero_le _⟩)) (fun r_1 hr_1 => ?_)
    rcases hr_1 with ⟨hag, rfl⟩ | ⟨hag, rfl⟩ | ⟨hag, rfl⟩
    · refine lv_if_ne (tgt := 20) hx hb dX3_wordOfTape_15 (by decide) (fun _ => ?_) (fun q => absurd q (by decide))
      refine lv_iinc (v := nI (i + 1)) (lv' := [(1, .int (nI (i + 1))), (0, .ref y)]) hx hb dX3_wordOfTape_20 hl (k := 1) rfl (nI_add i 1) (by decide) rfl (fun ls hl => ?_)
      refine lv_goto (tgt := 2) hx hb dX3_wordOfTape_23 (by decide) ?_
      exact ih (i + 1) _ ⟨lv_sub hl [1, 0] rfl, by omega, lt_s1 h1 (Nat.ne_of_lt hag)⟩ (by first | omega | (dsimp only; omega))
    · refine lv_if_ne (tgt := 20) hx hb dX3_wordOfTape_15 (by decide) (fun _ => ?_) (fun q => absurd q (by decide))
      refine lv_iinc (v := nI (i + 1)) (lv' := [(1, .int (nI (i + 1))), (0, .ref y)]) hx hb dX3_wordOfTape_20 hl (k := 1) rfl (nI_add i 1) (by decide) rfl (fun ls hl => ?_)
      refine lv_goto (tgt := 2) hx hb dX3_wordOfTape_23 (by decide) ?_
      exact ih (i + 1) _ ⟨lv_sub hl [1, 0] rfl, by omega, lt_s1 h1 (Nat.ne_of_gt hag)⟩ (by first | omega | (dsimp only; omega))
    · refine lv_if_ne (tgt := 20) hx hb dX3_wordOfTape_15 (by decide) (fun q => absurd (by decide) q) (fun _ => ?_)
      refine lv_iload_n hx hb dX3_wordOfTape_18 rfl (lv_at hl 1 rfl) ?_
      exact W.iret (v := nI i) hx hb hr (fun t ht hW => ⟨nI i, rfl, Or.inl ⟨i, c_7, hag, rfl⟩, ht⟩) (fun _ h => nomatch h) dX3_wordOfTape_19

set_option maxHeartbeats 4000000 in
set_option maxRecDepth 100000 in
theorem c_X3_numbers (l : Launch) (D : va_G) (cI cJ : ClassId) (y r0 r1 r2 r3 r4 r5 wd tp wm tm : Nat) (a0 b0 v0 cap n : Nat) (fa fb : Nat → Int32) (fv : Nat → Int64) (hn : n ≤ cap) (hc : cap ≤ 1100) (h16 : 16 ≤ cap) (wi : Nat) (hwi : wi < 2 ^ 31) : Met l yX3_numbers wsX3_numbers { frames := 0, cells := 0, slots := 0, locals := 0 } (va_Pc [.ref y, .int (nI wi)] (rP D cI cJ [(y, .inr (3, [.ref r0, .ref r1, .ref r2, .ref r3, .ref r4, .ref r5, .ref wd, .ref tp, .int (nI wm), .int (nI tm)])), (r5, .inr (2, [.ref a0, .ref b0, .ref v0, .int (nI n)])), (a0, .inl (cI, cap, .inl fa)), (b0, .inl (cI, cap, .inl fb)), (v0, .inl (cJ, cap, .inr (.inl fv)))])) (vp_Si (fun r => r = nI (nmF n fa wi))) 0 0 (fun _ => False) := by
  refine Met.ofW (cc := cX3_numbers) (maxL := 4) (ret := (some .int)) (by decide) rfl ?_
  intro p e s m args below meth c s₁ B hml hv
  obtain ⟨rfl, hP, hK⟩ := hv
  have hx := B.exec
  have hb := B.bytes
  have hr := B.returns
  have hts := atoms_spec (ws := wsX3_numbers) B.pre
  have hown : s.vm.findClass RX3 = some m.cls := findClass_of_methodNamed B.named
  have hlocks := B.notSynchronized
  have lk0 := hts (.fieldLink RX3 28 "KeyHallModel" "lines" "LKeyHallModel$Rows;") (by decide +kernel)
  have lk1 : ∀ w ∈ wsX30, w ∈ wsX3_numbers := by decide +kernel
  have lk2 := hts (.fieldLink RX3 46 "KeyHallModel$Rows" "many" "I") (by decide +kernel)
  have lk3 : ∀ w ∈ wsX20, w ∈ wsX3_numbers := by decide +kernel
  have lk4 := hts (.fieldLink RX3 66 "KeyHallModel$Rows" "a" "[I") (by decide +kernel)
  have hl := lv_entry ([.ref y, .int (nI wi)]) (n := 4) (Nat.le_of_ble_eq_true rfl)
  rw [lg_entry_eq]
  generalize (lg_sl ([.ref y, .int (nI wi)]) ++ List.replicate (4 - (lg_sl ([.ref y, .int (nI wi)])).length) Slot.unset).toArray = ls at hl ⊢
  have hl : lv_has ls 4 [(0, .ref y), (1, .int (nI wi))] := hl
  refine lv_iconst (v := nI 0) hx hb dX3_numbers_0 (by decide) ?_
  refine lv_istore_n (lv' := [(2, .int (nI 0)), (0, .ref y), (1, .int (nI wi))]) hx hb dX3_numbers_1 rfl hl (by decide) rfl (fun ls hl => ?_)
  refine lv_iconst (v := nI 0) hx hb dX3_numbers_2 (by decide) ?_
  refine lv_istore_n (lv' := [(3, .int (nI 0)), (2, .int (nI 0)), (0, .ref y), (1, .int (nI wi))]) hx hb dX3_numbers_3 rfl hl (by decide) rfl (fun ls hl => ?_)
  refine z_loop (σ := Nat) (fun i => n - i) (fun i ls => lv_has ls 4 [(0, .ref y), (1, .int (nI wi)), (2, .int (nI (cntF (fun j => pB (fa j = nI wi)) i))), (3, .int (nI i))] ∧ (i ≤ n)) ?_ (0) _ ⟨lv_sub hl [2, 3, 1, 0] rfl, Nat.zero_le _⟩
  rintro i ls ⟨hl, hi⟩ ih
  have hl : lv_has ls 4 [(0, .ref y), (1, .int (nI wi)), (2, .int (nI (cntF (fun j => pB (fa j = nI wi)) i))), (3, .int (nI i))] := hl
  have hcl := cntF_le (fun j => pB (fa j = nI wi)) i
  refine lv_iload_n hx hb dX3_numbers_4 rfl (lv_at hl 3 rfl) ?_
  refine lv_aload_n hx hb dX3_numbers_5 rfl (lv_at hl 0 rfl) ?_
  refine va_get (D := D) (ci := 3) (v := .ref r5) (C := RX3) (T := TX3) (N := 10) hx hb hts lk1 hown hK hP 0 rfl rfl 5 (by decide) lk0 (fun _ h9 => h9) rfl dX3_numbers_6 ?_
  refine va_get (D := D) (ci := 2) (v := .int (nI n)) (C := RX2) (T := TX2) (N := 4) hx hb hts lk3 hown hK hP 1 rfl rfl 3 (by decide) lk2 (fun _ h9 => h9) rfl dX3_numbers_9 ?_
  refine z_icmp_ge (tgt := 37) hx hb dX3_numbers_12 (by decide) (by omega) (by omega) (fun c_12 => ?_) (fun c_12 => ?_)
  · refine lv_iload_n hx hb dX3_numbers_37 rfl (lv_at hl 2 rfl) ?_
    exact W.iret (v := nI (cntF (fun j => pB (fa j = nI wi)) i)) hx hb hr (fun t ht hW => ⟨nI (cntF (fun j => pB (fa j = nI wi)) i), rfl, by rw [Nat.le_antisymm hi c_12]; rfl, ht⟩) (fun _ h => nomatch h) dX3_numbers_38
  · refine lv_aload_n hx hb dX3_numbers_15 rfl (lv_at hl 0 rfl) ?_
    refine va_get (D := D) (ci := 3) (v := .ref r5) (C := RX3) (T := TX3) (N := 10) hx hb hts lk1 hown hK hP 0 rfl rfl 5 (by decide) lk0 (fun _ h9 => h9) rfl dX3_numbers_16 ?_
    refine va_get (D := D) (ci := 2) (v := .ref a0) (C := RX2) (T := TX2) (N := 4) hx hb hts lk3 hown hK hP 1 rfl rfl 0 (by decide) lk4 (fun _ h9 => h9) rfl dX3_numbers_19 ?_
    refine lv_iload_n hx hb dX3_numbers_22 rfl (lv_at hl 3 rfl) ?_
    refine z_iald hx hb hK hP 2 rfl (j := i) (by omega) (by omega) dX3_numbers_23 ?_
    refine lv_iload_n hx hb dX3_numbers_24 rfl (lv_at hl 1 rfl) ?_
    refine lv_icmp_ne (tgt := 31) hx hb dX3_numbers_25 (by decide) (fun c_25 => ?_) (fun c_25 => ?_)
    · rw [← cntF_f (P := fun j => pB (fa j = nI wi)) (pB_f c_25)] at hl
      have hl : lv_has ls 4 [(0, .ref y), (1, .int (nI wi)), (2, .int (nI (cntF (fun j => pB (fa j = nI wi)) (i + 1)))), (3, .int (nI i))] := hl
      refine lv_iinc (v := nI (i + 1)) (lv' := [(3, .int (nI (i + 1))), (0, .ref y), (1, .int (nI wi)), (2, .int (nI (cntF (fun j => pB (fa j = nI wi)) (i + 1))))]) hx hb dX3_numbers_31 hl (k := 3) rfl (nI_add i 1) (by decide) rfl (fun ls hl => ?_)
      refine lv_goto (tgt := 4) hx hb dX3_numbers_34 (by decide) ?_
      exact ih (i + 1) _ ⟨lv_sub hl [1, 2, 3, 0] rfl, by omega⟩ (by first | omega | (dsimp only; omega))
    · refine lv_iinc (v := nI (cntF (fun j => pB (fa j = nI wi)) i + 1)) (lv' := [(2, .int (nI (cntF (fun j => pB (fa j = nI wi)) i + 1))), (0, .ref y), (1, .int (nI wi)), (3, .int (nI i))]) hx hb dX3_numbers_28 hl (k := 2) rfl (nI_add (cntF (fun j => pB (fa j = nI wi)) i) 1) (by decide) rfl (fun ls hl => ?_)
      rw [← cntF_t (P := fun j => pB (fa j = nI wi)) (pB_t c_25)] at hl
      have hl : lv_has ls 4 [(2, .int (nI (cntF (fun j => pB (fa j = nI wi)) (i + 1)))), (0, .ref y), (1, .int (nI wi)), (3, .int (nI i))] := hl
      refine lv_iinc (v := nI (i + 1)) (lv' := [(3, .int (nI (i + 1))), (2, .int (nI (cntF (fun j => pB (fa j = nI wi)) (i + 1)))), (0, .ref y), (1, .int (nI wi))]) hx hb dX3_numbers_31 hl (k := 3) rfl (nI_add i 1) (by decide) rfl (fun ls hl => ?_)
      refine lv_goto (tgt := 4) hx hb dX3_numbers_34 (by decide) ?_
      exact ih (i + 1) _ ⟨lv_sub hl [2, 3, 1, 0] rfl, by omega⟩ (by first | omega | (dsimp only; omega))

set_option maxHeartbeats 4000000 in
set_option maxRecDepth 100000 in
theorem c_X3_read (l : Launch) (D : va_G) (cI cJ : ClassId) (y r0 r1 r2 r3 r4 r5 wd tp wm tm : Nat) (wc : Nat) (fw : Nat → Int32) (hwc : 12 * wm ≤ wc) (hwc2 : wc ≤ 1176) (ft : Nat → Int32) (htm : tm ≤ 12) (a0 b0 v0 cap n : Nat) (fa fb : Nat → Int32) (fv : Nat → Int64) (hn : n ≤ cap) (hc : cap ≤ 1100) (h16 : 16 ≤ cap) (k : Int32) (sz : Nat) : Met l yX3_read wsX3_read { frames := 3, cells := 0, slots := 0, locals := 65 } (va_Pc [.ref y, .int k] (wP D cI cJ [(y, .inr (3, [.ref r0, .ref r1, .ref r2, .ref r3, .ref r4, .ref r5, .ref wd, .ref tp, .int (nI wm), .int (nI tm)])), (wd, .inl (cI, wc, .inl fw)), (tp, .inl (cI, 12, .inl ft)), (r5, .inr (2, [.ref a0, .ref b0, .ref v0, .int (nI n)])), (a0, .inl (cI, cap, .inl fa)), (b0, .inl (cI, cap, .inl fb)), (v0, .inl (cJ, cap, .inr (.inl fv)))] sz)) (va_Ql (fun r (u : Unit) => (∃ w, w < wm ∧ vW (wF fw w) = vW (tS tm ft) ∧ RdR n fa fv w k r) ∨ ((∀ w, w < wm → vW (wF fw w) ≠ vW (tS tm ft)) ∧ r = NO)) (wB D cI cJ (va_A [(y, .inr (3, [.ref r0, .ref r1, .ref r2, .ref r3, .ref r4, .ref r5, .ref wd, .ref tp, .int (nI wm), .int (nI tm)])), (wd, .inl (cI, wc, .inl fw)), (tp, .inl (cI, 12, .inl ft)), (r5, .inr (2, [.ref a0, .ref b0, .ref v0, .int (nI n)])), (a0, .inl (cI, cap, .inl fa)), (b0, .inl (cI, cap, .inl fb)), (v0, .inl (cJ, cap, .inr (.inl fv)))] sz) (fun _ => [(y, .inr (3, [.ref r0, .ref r1, .ref r2, .ref r3, .ref r4, .ref r5, .ref wd, .ref tp, .int (nI wm), .int (nI 0)])), (wd, .inl (cI, wc, .inl fw)), (tp, .inl (cI, 12, .inl ft)), (r5, .inr (2, [.ref a0, .ref b0, .ref v0, .int (nI n)])), (a0, .inl (cI, cap, .inl fa)), (b0, .inl (cI, cap, .inl fb)), (v0, .inl (cJ, cap, .inr (.inl fv)))])) (va_A [(y, .inr (3, [.ref r0, .ref r1, .ref r2, .ref r3, .ref r4, .ref r5, .ref wd, .ref tp, .int (nI wm), .int (nI tm)])), (wd, .inl (cI, wc, .inl fw)), (tp, .inl (cI, 12, .inl ft)), (r5, .inr (2, [.ref a0, .ref b0, .ref v0, .int (nI n)])), (a0, .inl (cI, cap, .inl fa)), (b0, .inl (cI, cap, .inl fb)), (v0, .inl (cJ, cap, .inr (.inl fv)))] sz)) 0 0 (va_A [(y, .inr (3, [.ref r0, .ref r1, .ref r2, .ref r3, .ref r4, .ref r5, .ref wd, .ref tp, .int (nI wm), .int (nI tm)])), (wd, .inl (cI, wc, .inl fw)), (tp, .inl (cI, 12, .inl ft)), (r5, .inr (2, [.ref a0, .ref b0, .ref v0, .int (nI n)])), (a0, .inl (cI, cap, .inl fa)), (b0, .inl (cI, cap, .inl fb)), (v0, .inl (cJ, cap, .inr (.inl fv)))] sz) := by
  refine Met.ofW (cc := cX3_read) (maxL := 5) (ret := (some .long)) (by decide) rfl ?_
  intro p e s m args below meth c s₁ B hml hv
  obtain ⟨rfl, hsz, hP, hK, hD0⟩ := hv
  have hx := B.exec
  have hb := B.bytes
  have hr := B.returns
  have hts := atoms_spec (ws := wsX3_read) B.pre
  have hown : s.vm.findClass RX3 = some m.cls := findClass_of_methodNamed B.named
  have hlocks := B.notSynchronized
  have lk0 := hts (.fieldLink RX3 82 "KeyHallModel" "tapeMany" "I") (by decide +kernel)
  have lk1 : ∀ w ∈ wsX30, w ∈ wsX3_read := by decide +kernel
  have lk2 := hts (.fieldLink RX3 28 "KeyHallModel" "lines" "LKeyHallModel$Rows;") (by decide +kernel)
  have lk3 := hts (.fieldLink RX3 46 "KeyHallModel$Rows" "many" "I") (by decide +kernel)
  have lk4 : ∀ w ∈ wsX20, w ∈ wsX3_read := by decide +kernel
  have lk5 := hts (.constantLong RX3 54 (4611686018427387904)) (by decide +kernel)
  have lk6 := hts (.fieldLink RX3 66 "KeyHallModel$Rows" "a" "[I") (by decide +kernel)
  have lk7 := hts (.fieldLink RX3 50 "KeyHallModel$Rows" "v" "[J") (by decide +kernel)
  subst hsz
  have hD := hD0.self (sz := s.heap.size)
  generalize hAe : va_A [(y, .inr (3, [.ref r0, .ref r1, .ref r2, .ref r3, .ref r4, .ref r5, .ref wd, .ref tp, .int (nI wm), .int (nI tm)])), (wd, .inl (cI, wc, .inl fw)), (tp, .inl (cI, 12, .inl ft)), (r5, .inr (2, [.ref a0, .ref b0, .ref v0, .int (nI n)])), (a0, .inl (cI, cap, .inl fa)), (b0, .inl (cI, cap, .inl fb)), (v0, .inl (cJ, cap, .inr (.inl fv)))] s.heap.size = A at hD ⊢
  have hA : ∀ q : Nat, s.heap.size ≤ q → A q := fun q h => by rw [← hAe]; exact Or.inr h
  have hS : va_S A s.heap s.heap [] := va_S.rf
  have hP : va_P D vwCl [(y, .inr (3, [.ref r0, .ref r1, .ref r2, .ref r3, .ref r4, .ref r5, .ref wd, .ref tp, .int (nI wm), .int (nI tm)])), (wd, .inl (cI, wc, .inl fw)), (tp, .inl (cI, 12, .inl ft)), (r5, .inr (2, [.ref a0, .ref b0, .ref v0, .int (nI n)])), (a0, .inl (cI, cap, .inl fa)), (b0, .inl (cI, cap, .inl fb)), (v0, .inl (cJ, cap, .inr (.inl fv)))] s.heap := hP
  have hl := lv_entry ([.ref y, .int k]) (n := 5) (Nat.le_of_ble_eq_true rfl)
  rw [lg_entry_eq]
  generalize (lg_sl ([.ref y, .int k]) ++ List.replicate (5 - (lg_sl ([.ref y, .int k])).length) Slot.unset).toArray = ls at hl ⊢
  have hl : lv_has ls 5 [(0, .ref y), (1, .int k)] := hl
  refine lv_aload_n hx hb dX3_read_0 rfl (lv_at hl 0 rfl) ?_
  refine vp_callSi (va_Run.run (va_runV (As := []) (rest := []) ⟨hx, hb, hml, hown, hts⟩ (c_X3_wordOfTape l D cI cJ y r0 r1 r2 r3 r4 r5 wd tp wm tm wc fw ft (by omega) (by omega) (by omega)) (cwV 0 hts gX3_read_X3_wordOfTape rfl rfl rfl (by decide +kernel) ⟨Nat.le_of_ble_eq_true rfl, Nat.le_of_ble_eq_true rfl⟩) (z_preV hK hP [0, 1, 2] rfl 3 0 rfl rfl) rfl rfl hl.1 rfl (lv_room (Nat.le_of_ble_eq_true rfl)) dX3_read_1 ⟨Nat.zero_le _, Nat.zero_le _⟩)) (fun r_1 hr_1 => ?_)
  rcases hr_1 with ⟨wi, hwi, hwe, rfl⟩ | ⟨hwn, rfl⟩
  · refine lv_istore_n (lv' := [(2, .int (nI wi)), (0, .ref y), (1, .int k)]) hx hb dX3_read_4 rfl hl (by decide) rfl (fun ls hl => ?_)
    refine lv_iload_n hx hb dX3_read_5 rfl (lv_at hl 2 rfl) ?_
    refine lv_istore_n (lv' := [(3, .int k), (2, .int (nI wi)), (0, .ref y), (1, .int k)]) hx hb dX3_read_6 rfl hl (by decide) rfl (fun ls hl => ?_)
    refine lv_aload_n hx hb dX3_read_7 rfl (lv_at hl 2 rfl) ?_
    refine lv_iconst (v := nI 0) hx hb dX3_read_8 (by decide) ?_
    refine va_put (D := D) (ci := 3) (v := .int (nI 0)) (ty := .int) (C := RX3) (T := TX3) (N := 10) hx hb hts lk1 tyX3 tyX3_ok nmX3 hown hK hP hD hS 0 rfl rfl 9 (by decide) lk0 (fun _ h9 => h9) rfl (by decide +kernel) rfl rfl (Nat.le_of_ble_eq_true rfl) dX3_read_9 (fun H locs hP hD hS => ?_)
    have hP : va_P D vwCl [(y, .inr (3, [.ref r0, .ref r1, .ref r2, .ref r3, .ref r4, .ref r5, .ref wd, .ref tp, .int (nI wm), .int (nI 0)])), (wd, .inl (cI, wc, .inl fw)), (tp, .inl (cI, 12, .inl ft)), (r5, .inr (2, [.ref a0, .ref b0, .ref v0, .int (nI n)])), (a0, .inl (cI, cap, .inl fa)), (b0, .inl (cI, cap, .inl fb)), (v0, .inl (cJ, cap, .inr (.inl fv)))] H := hP
    have hD : va_D A [(y, .inr (3, [.ref r0, .ref r1, .ref r2, .ref r3, .ref r4, .ref r5, .ref wd, .ref tp, .int (nI wm), .int (nI 0)])), (wd, .inl (cI, wc, .inl fw)), (tp, .inl (cI, 12, .inl ft)), (r5, .inr (2, [.ref a0, .ref b0, .ref v0, .int (nI n)])), (a0, .inl (cI, cap, .inl fa)), (b0, .inl (cI, cap, .inl fb)), (v0, .inl (cJ, cap, .inr (.inl fv)))] := hD
    refine lv_iload_n hx hb dX3_read_12 rfl (lv_at hl 1 rfl) ?_
    refine z_if_lt (tgt := 20) hx hb dX3_read_13 (by decide) (by omega) ?_
    refine lv_iload_n hx hb dX3_read_16 rfl (lv_at hl 3 rfl) ?_
    refine lv_if_ge (tgt := 24) hx hb dX3_read_17 (by decide) (fun c_17 => ?_) (fun c_17 => ?_)
    · obtain ⟨kk, hkk, rfl⟩ := nI_of (Int32.not_lt.mpr c_17)
      have hl : lv_has ls 5 [(3, .int (nI (kk - nmF 0 fa wi))), (2, .int (nI wi)), (0, .ref y), (1, .int (nI kk))] := hl
      refine lv_iconst (v := nI 0) hx hb dX3_read_24 (by decide) ?_
      refine lv_istore (lv' := [(4, .int (nI 0)), (3, .int (nI (kk - nmF 0 fa wi))), (2, .int (nI wi)), (0, .ref y), (1, .int (nI kk))]) hx hb dX3_read_25 hl (by decide) rfl (fun ls hl => ?_)
      refine z_loopw (σ := Nat) (fun i => n - i) (fun i H locs ls => va_P D vwCl [(y, .inr (3, [.ref r0, .ref r1, .ref r2, .ref r3, .ref r4, .ref r5, .ref wd, .ref tp, .int (nI wm), .int (nI 0)])), (wd, .inl (cI, wc, .inl fw)), (tp, .inl (cI, 12, .inl ft)), (r5, .inr (2, [.ref a0, .ref b0, .ref v0, .int (nI n)])), (a0, .inl (cI, cap, .inl fa)), (b0, .inl (cI, cap, .inl fb)), (v0, .inl (cJ, cap, .inr (.inl fv)))] H ∧ va_D A [(y, .inr (3, [.ref r0, .ref r1, .ref r2, .ref r3, .ref r4, .ref r5, .ref wd, .ref tp, .int (nI wm), .int (nI 0)])), (wd, .inl (cI, wc, .inl fw)), (tp, .inl (cI, 12, .inl ft)), (r5, .inr (2, [.ref a0, .ref b0, .ref v0, .int (nI n)])), (a0, .inl (cI, cap, .inl fa)), (b0, .inl (cI, cap, .inl fb)), (v0, .inl (cJ, cap, .inr (.inl fv)))] ∧ va_S A s.heap H locs ∧ lv_has ls 5 [(0, .ref y), (2, .int (nI wi)), (3, .int (nI (kk - nmF i fa wi))), (4, .int (nI i))] ∧ (i ≤ n) ∧ (nmF i fa wi ≤ kk)) ?_ (0) _ _ _ ⟨hP, hD, hS, lv_sub hl [3, 2, 1, 0] rfl, Nat.zero_le _, Nat.zero_le _⟩
      rintro i H locs ls ⟨hP, hD, hS, hl, hi, hcn⟩ ih
      have hP : va_P D vwCl [(y, .inr (3, [.ref r0, .ref r1, .ref r2, .ref r3, .ref r4, .ref r5, .ref wd, .ref tp, .int (nI wm), .int (nI 0)])), (wd, .inl (cI, wc, .inl fw)), (tp, .inl (cI, 12, .inl ft)), (r5, .inr (2, [.ref a0, .ref b0, .ref v0, .int (nI n)])), (a0, .inl (cI, cap, .inl fa)), (b0, .inl (cI, cap, .inl fb)), (v0, .inl (cJ, cap, .inr (.inl fv)))] H := hP
      have hl : lv_has ls 5 [(0, .ref y), (2, .int (nI wi)), (3, .int (nI (kk - nmF i fa wi))), (4, .int (nI i))] := hl
      refine lv_iload hx hb dX3_read_27 (lv_at hl 3 rfl) ?_
      refine lv_aload_n hx hb dX3_read_29 rfl (lv_at hl 0 rfl) ?_
      refine va_get (D := D) (ci := 3) (v := .ref r5) (C := RX3) (T := TX3) (N := 10) hx hb hts lk1 hown hK hP 0 rfl rfl 5 (by decide) lk2 (fun _ h9 => h9) rfl dX3_read_30 ?_
      refine va_get (D := D) (ci := 2) (v := .int (nI n)) (C := RX2) (T := TX2) (N := 4) hx hb hts lk4 hown hK hP 3 rfl rfl 3 (by decide) lk3 (fun _ h9 => h9) rfl dX3_read_33 ?_
      refine z_icmp_ge (tgt := 77) hx hb dX3_read_36 (by decide) (by omega) (by omega) (fun c_36 => ?_) (fun c_36 => ?_)
      · refine lv_ldc2 hx hb hown lk5 dX3_read_77 ?_
        exact W.lret (v := 4611686018427387904) hx hb hr (fun t ht hW => ⟨⟨4611686018427387904, (), rfl, Or.inl ⟨wi, hwi, hwe, Or.inr ⟨Or.inr ⟨kk, hkk, rfl, by rw [← Nat.le_antisymm hi c_36]; exact hcn⟩, rfl⟩⟩, by rw [ht]; exact hP, va_K.moved hW.alike hK, hD⟩, hS.F ht⟩) hS.2.2 dX3_read_80
      · refine lv_aload_n hx hb dX3_read_39 rfl (lv_at hl 0 rfl) ?_
        refine va_get (D := D) (ci := 3) (v := .ref r5) (C := RX3) (T := TX3) (N := 10) hx hb hts lk1 hown hK hP 0 rfl rfl 5 (by decide) lk2 (fun _ h9 => h9) rfl dX3_read_40 ?_
        refine va_get (D := D) (ci := 2) (v := .ref a0) (C := RX2) (T := TX2) (N := 4) hx hb hts lk4 hown hK hP 3 rfl rfl 0 (by decide) lk6 (fun _ h9 => h9) rfl dX3_read_43 ?_
        refine lv_iload hx hb dX3_read_46 (lv_at hl 3 rfl) ?_
        refine z_iald hx hb hK hP 4 rfl (j := i) (by omega) (by omega) dX3_read_48 ?_
        refine lv_iload_n hx hb dX3_read_49 rfl (lv_at hl 1 rfl) ?_
        refine lv_icmp_ne (tgt := 71) hx hb dX3_read_50 (by decide) (fun c_50 => ?_) (fun c_50 => ?_)
        · have hcs : nmF (i + 1) fa wi = nmF i fa wi := cntF_f (P := fun j => pB (fa j = nI wi)) (pB_f c_50)
          rw [← hcs] at hl
          have hl : lv_has ls 5 [(0, .ref y), (2, .int (nI wi)), (3, .int (nI (kk - nmF (i + 1) fa wi))), (4, .int (nI i))] := hl
          refine lv_iinc (v := nI (i + 1)) (lv' := [(4, .int (nI (i + 1))), (0, .ref y), (2, .int (nI wi)), (3, .int (nI (kk - nmF (i + 1) fa wi)))]) hx hb dX3_read_71 hl (k := 3) rfl (nI_add i 1) (by decide) rfl (fun ls hl => ?_)
          refine lv_goto (tgt := 27) hx hb dX3_read_74 (by decide) ?_
          exact ih (i + 1) _ _ _ ⟨hP, hD, hS, lv_sub hl [1, 2, 3, 0] rfl, by omega, by omega⟩ (by first | omega | (dsimp only; omega))
        · refine lv_iload_n hx hb dX3_read_53 rfl (lv_at hl 2 rfl) ?_
          refine lv_iinc (v := nI (kk - nmF i fa wi) + Int32.ofInt (-1)) (lv' := [(3, .int (nI (kk - nmF i fa wi) + Int32.ofInt (-1))), (0, .ref y), (2, .int (nI wi)), (4, .int (nI i))]) hx hb dX3_read_54 hl (k := 2) rfl (rfl) (by decide) rfl (fun ls hl => ?_)
          refine z_if_ne (tgt := 71) hx hb dX3_read_57 (by decide) (by omega) (fun c_57 => ?_) (fun c_57 => ?_)
          · have hcs : nmF (i + 1) fa wi = nmF i fa wi + 1 := cntF_t (P := fun j => pB (fa j = nI wi)) (pB_t c_50)
            rw [nm_1 (show nmF i fa wi < kk by omega), ← hcs] at hl
            have hl : lv_has ls 5 [(3, .int (nI (kk - nmF (i + 1) fa wi))), (0, .ref y), (2, .int (nI wi)), (4, .int (nI i))] := hl
            refine lv_iinc (v := nI (i + 1)) (lv' := [(4, .int (nI (i + 1))), (3, .int (nI (kk - nmF (i + 1) fa wi))), (0, .ref y), (2, .int (nI wi))]) hx hb dX3_read_71 hl (k := 3) rfl (nI_add i 1) (by decide) rfl (fun ls hl => ?_)
            refine lv_goto (tgt := 27) hx hb dX3_read_74 (by decide) ?_
            exact ih (i + 1) _ _ _ ⟨hP, hD, hS, lv_sub hl [2, 3, 1, 0] rfl, by omega, by omega⟩ (by first | omega | (dsimp only; omega))
          · refine lv_aload_n hx hb dX3_read_60 rfl (lv_at hl 1 rfl) ?_
            refine va_get (D := D) (ci := 3) (v := .ref r5) (C := RX3) (T := TX3) (N := 10) hx hb hts lk1 hown hK hP 0 rfl rfl 5 (by decide) lk2 (fun _ h9 => h9) rfl dX3_read_61 ?_
            refine va_get (D := D) (ci := 2) (v := .ref v0) (C := RX2) (T := TX2) (N := 4) hx hb hts lk4 hown hK hP 3 rfl rfl 2 (by decide) lk7 (fun _ h9 => h9) rfl dX3_read_64 ?_
            refine lv_iload hx hb dX3_read_67 (lv_at hl 3 rfl) ?_
            refine z_lald hx hb hK hP 6 rfl (j := i) (by omega) (by omega) dX3_read_69 ?_
            exact W.lret (v := fv i) hx hb hr (fun t ht hW => ⟨⟨fv i, (), rfl, Or.inl ⟨wi, hwi, hwe, Or.inl ⟨i, c_36, c_50, congrArg nI (by omega), rfl⟩⟩, by rw [ht]; exact hP, va_K.moved hW.alike hK, hD⟩, hS.F ht⟩) hS.2.2 dX3_read_70
    · refine lv_ldc2 hx hb hown lk5 dX3_read_20 ?_
      exact W.lret (v := 4611686018427387904) hx hb hr (fun t ht hW => ⟨⟨4611686018427387904, (), rfl, Or.inl ⟨wi, hwi, hwe, Or.inr ⟨Or.inl (Int32.not_le.mp c_17), rfl⟩⟩, by rw [ht]; exact hP, va_K.moved hW.alike hK, hD⟩, hS.F ht⟩) hS.2.2 dX3_read_23
  · refine lv_istore_n (lv' := [(2, .int (-1)), (0, .ref y), (1, .int k)]) hx hb dX3_read_4 rfl hl (by decide) rfl (fun ls hl => ?_)
    refine lv_iload_n hx hb dX3_read_5 rfl (lv_at hl 2 rfl) ?_
    refine lv_istore_n (lv' := [(3, .int k), (2, .int (-1)), (0, .ref y), (1, .int k)]) hx hb dX3_read_6 rfl hl (by decide) rfl (fun ls hl => ?_)
    refine lv_aload_n hx hb dX3_read_7 rfl (lv_at hl 2 rfl) ?_
    refine lv_iconst (v := nI 0) hx hb dX3_read_8 (by decide) ?_
    refine va_put (D := D) (ci := 3) (v := .int (nI 0)) (ty := .int) (C := RX3) (T := TX3) (N := 10) hx hb hts lk1 tyX3 tyX3_ok nmX3 hown hK hP hD hS 0 rfl rfl 9 (by decide) lk0 (fun _ h9 => h9) rfl (by decide +kernel) rfl rfl (Nat.le_of_ble_eq_true rfl) dX3_read_9 (fun H locs hP hD hS => ?_)
    have hP : va_P D vwCl [(y, .inr (3, [.ref r0, .ref r1, .ref r2, .ref r3, .ref r4, .ref r5, .ref wd, .ref tp, .int (nI wm), .int (nI 0)])), (wd, .inl (cI, wc, .inl fw)), (tp, .inl (cI, 12, .inl ft)), (r5, .inr (2, [.ref a0, .ref b0, .ref v0, .int (nI n)])), (a0, .inl (cI, cap, .inl fa)), (b0, .inl (cI, cap, .inl fb)), (v0, .inl (cJ, cap, .inr (.inl fv)))] H := hP
    have hD : va_D A [(y, .inr (3, [.ref r0, .ref r1, .ref r2, .ref r3, .ref r4, .ref r5, .ref wd, .ref tp, .int (nI wm), .int (nI 0)])), (wd, .inl (cI, wc, .inl fw)), (tp, .inl (cI, 12, .inl ft)), (r5, .inr (2, [.ref a0, .ref b0, .ref v0, .int (nI n)])), (a0, .inl (cI, cap, .inl fa)), (b0, .inl (cI, cap, .inl fb)), (v0, .inl (cJ, cap, .inr (.inl fv)))] := hD
    refine lv_iload_n hx hb dX3_read_12 rfl (lv_at hl 1 rfl) ?_
    refine lv_if_lt (tgt := 20) hx hb dX3_read_13 (by decide) (fun _ => ?_) (fun q => absurd (by decide) q)
    refine lv_ldc2 hx hb hown lk5 dX3_read_20 ?_
    exact W.lret (v := 4611686018427387904) hx hb hr (fun t ht hW => ⟨⟨4611686018427387904, (), rfl, Or.inr ⟨hwn, rfl⟩, by rw [ht]; exact hP, va_K.moved hW.alike hK, hD⟩, hS.F ht⟩) hS.2.2 dX3_read_23

set_option maxHeartbeats 4000000 in
set_option maxRecDepth 100000 in
theorem c_X3_forget (l : Launch) (D : va_G) (cI cJ : ClassId) (y r0 r1 r2 r3 r4 r5 wd tp wm tm : Nat) (wc : Nat) (fw : Nat → Int32) (hwc : 12 * wm ≤ wc) (hwc2 : wc ≤ 1176) (ft : Nat → Int32) (htm : tm ≤ 12) (a0 b0 v0 cap n : Nat) (fa fb : Nat → Int32) (fv : Nat → Int64) (hn : n ≤ cap) (hc : cap ≤ 1100) (h16 : 16 ≤ cap) (sz : Nat) : Met l yX3_forget wsX3_forget { frames := 3, cells := 0, slots := 0, locals := 65 } (va_Pc [.ref y] (wP D cI cJ [(y, .inr (3, [.ref r0, .ref r1, .ref r2, .ref r3, .ref r4, .ref r5, .ref wd, .ref tp, .int (nI wm), .int (nI tm)])), (wd, .inl (cI, wc, .inl fw)), (tp, .inl (cI, 12, .inl ft)), (r5, .inr (2, [.ref a0, .ref b0, .ref v0, .int (nI n)])), (a0, .inl (cI, cap, .inl fa)), (b0, .inl (cI, cap, .inl fb)), (v0, .inl (cJ, cap, .inr (.inl fv)))] sz)) (va_Qi (fun r (u : Nat × Nat × Nat × Nat × Nat × (Nat → Int32) × (Nat → Int32) × (Nat → Int64)) => match u with | (a', b', v', cap', n', fa', fb', fv') => ROK n' cap' ∧ ((∃ w, w < wm ∧ vW (wF fw w) = vW (tS tm ft) ∧ (rl n' fa' fb' fv') = (rl n fa fb fv).filter (fun e => pB (¬ e.1 = nI w)) ∧ ((nmF n fa w = 0 ∧ r = (-1)) ∨ (0 < nmF n fa w ∧ r = nI (nmF n fa w)))) ∨ ((∀ w, w < wm → vW (wF fw w) ≠ vW (tS tm ft)) ∧ (rl n' fa' fb' fv') = (rl n fa fb fv) ∧ r = (-1)))) (wB D cI cJ (va_A [(y, .inr (3, [.ref r0, .ref r1, .ref r2, .ref r3, .ref r4, .ref r5, .ref wd, .ref tp, .int (nI wm), .int (nI tm)])), (wd, .inl (cI, wc, .inl fw)), (tp, .inl (cI, 12, .inl ft)), (r5, .inr (2, [.ref a0, .ref b0, .ref v0, .int (nI n)])), (a0, .inl (cI, cap, .inl fa)), (b0, .inl (cI, cap, .inl fb)), (v0, .inl (cJ, cap, .inr (.inl fv)))] sz) (fun (a', b', v', cap', n', fa', fb', fv') => [(y, .inr (3, [.ref r0, .ref r1, .ref r2, .ref r3, .ref r4, .ref r5, .ref wd, .ref tp, .int (nI wm), .int (nI 0)])), (wd, .inl (cI, wc, .inl fw)), (tp, .inl (cI, 12, .inl ft)), (r5, .inr (2, [.ref a', .ref b', .ref v', .int (nI n')])), (a', .inl (cI, cap', .inl fa')), (b', .inl (cI, cap', .inl fb')), (v', .inl (cJ, cap', .inr (.inl fv')))])) (va_A [(y, .inr (3, [.ref r0, .ref r1, .ref r2, .ref r3, .ref r4, .ref r5, .ref wd, .ref tp, .int (nI wm), .int (nI tm)])), (wd, .inl (cI, wc, .inl fw)), (tp, .inl (cI, 12, .inl ft)), (r5, .inr (2, [.ref a0, .ref b0, .ref v0, .int (nI n)])), (a0, .inl (cI, cap, .inl fa)), (b0, .inl (cI, cap, .inl fb)), (v0, .inl (cJ, cap, .inr (.inl fv)))] sz)) 0 0 (va_A [(y, .inr (3, [.ref r0, .ref r1, .ref r2, .ref r3, .ref r4, .ref r5, .ref wd, .ref tp, .int (nI wm), .int (nI tm)])), (wd, .inl (cI, wc, .inl fw)), (tp, .inl (cI, 12, .inl ft)), (r5, .inr (2, [.ref a0, .ref b0, .ref v0, .int (nI n)])), (a0, .inl (cI, cap, .inl fa)), (b0, .inl (cI, cap, .inl fb)), (v0, .inl (cJ, cap, .inr (.inl fv)))] sz) := by
  refine Met.ofW (cc := cX3_forget) (maxL := 4) (ret := (some .int)) (by decide) rfl ?_
  intro p e s m args below meth c s₁ B hml hv
  obtain ⟨rfl, hsz, hP, hK, hD0⟩ := hv
  have hx := B.exec
  have hb := B.bytes
  have hr := B.returns
  have hts := atoms_spec (ws := wsX3_forget) B.pre
  have hown : s.vm.findClass RX3 = some m.cls := findClass_of_methodNamed B.named
  have hlocks := B.notSynchronized
  have lk0 := hts (.fieldLink RX3 82 "KeyHallModel" "tapeMany" "I") (by decide +kernel)
  have lk1 : ∀ w ∈ wsX30, w ∈ wsX3_forget := by decide +kernel
  have lk2 := hts (.fieldLink RX3 28 "KeyHallModel" "lines" "LKeyHallModel$Rows;") (by decide +kernel)
  have lk3 := hts (.fieldLink RX3 46 "KeyHallModel$Rows" "many" "I") (by decide +kernel)
  have lk4 : ∀ w ∈ wsX20, w ∈ wsX3_forget := by decide +kernel
  have lk5 := hts (.fieldLink RX3 66 "KeyHallModel$Rows" "a" "[I") (by decide +kernel)
  subst hsz
  have hD := hD0.self (sz := s.heap.size)
  generalize hAe : va_A [(y, .inr (3, [.ref r0, .ref r1, .ref r2, .ref r3, .ref r4, .ref r5, .ref wd, .ref tp, .int (nI wm), .int (nI tm)])), (wd, .inl (cI, wc, .inl fw)), (tp, .inl (cI, 12, .inl ft)), (r5, .inr (2, [.ref a0, .ref b0, .ref v0, .int (nI n)])), (a0, .inl (cI, cap, .inl fa)), (b0, .inl (cI, cap, .inl fb)), (v0, .inl (cJ, cap, .inr (.inl fv)))] s.heap.size = A at hD ⊢
  have hA : ∀ q : Nat, s.heap.size ≤ q → A q := fun q h => by rw [← hAe]; exact Or.inr h
  have hS : va_S A s.heap s.heap [] := va_S.rf
  have hP : va_P D vwCl [(y, .inr (3, [.ref r0, .ref r1, .ref r2, .ref r3, .ref r4, .ref r5, .ref wd, .ref tp, .int (nI wm), .int (nI tm)])), (wd, .inl (cI, wc, .inl fw)), (tp, .inl (cI, 12, .inl ft)), (r5, .inr (2, [.ref a0, .ref b0, .ref v0, .int (nI n)])), (a0, .inl (cI, cap, .inl fa)), (b0, .inl (cI, cap, .inl fb)), (v0, .inl (cJ, cap, .inr (.inl fv)))] s.heap := hP
  have hl := lv_entry ([.ref y]) (n := 4) (Nat.le_of_ble_eq_true rfl)
  rw [lg_entry_eq]
  generalize (lg_sl ([.ref y]) ++ List.replicate (4 - (lg_sl ([.ref y])).length) Slot.unset).toArray = ls at hl ⊢
  have hl : lv_has ls 4 [(0, .ref y)] := hl
  refine lv_aload_n hx hb dX3_forget_0 rfl (lv_at hl 0 rfl) ?_
  refine vp_callSi (va_Run.run (va_runV (As := []) (rest := []) ⟨hx, hb, hml, hown, hts⟩ (c_X3_wordOfTape l D cI cJ y r0 r1 r2 r3 r4 r5 wd tp wm tm wc fw ft (by omega) (by omega) (by omega)) (cwV 0 hts gX3_forget_X3_wordOfTape rfl rfl rfl (by decide +kernel) ⟨Nat.le_of_ble_eq_true rfl, Nat.le_of_ble_eq_true rfl⟩) (z_preV hK hP [0, 1, 2] rfl 3 0 rfl rfl) rfl rfl hl.1 rfl (lv_room (Nat.le_of_ble_eq_true rfl)) dX3_forget_1 ⟨Nat.zero_le _, Nat.zero_le _⟩)) (fun r_1 hr_1 => ?_)
  rcases hr_1 with ⟨wi, hwi, hwe, rfl⟩ | ⟨hwn, rfl⟩
  · refine lv_istore_n (lv' := [(1, .int (nI wi)), (0, .ref y)]) hx hb dX3_forget_4 rfl hl (by decide) rfl (fun ls hl => ?_)
    refine lv_iload_n hx hb dX3_forget_5 rfl (lv_at hl 0 rfl) ?_
    refine z_if_ge (tgt := 13) hx hb dX3_forget_6 (by decide) (by omega) ?_
    refine lv_aload_n hx hb dX3_forget_13 rfl (lv_at hl 1 rfl) ?_
    refine lv_iload_n hx hb dX3_forget_14 rfl (lv_at hl 0 rfl) ?_
    refine vp_callSi (va_Run.run (va_runV (As := [.int (nI wi)]) (rest := []) ⟨hx, hb, hml, hown, hts⟩ (c_X3_numbers l D cI cJ y r0 r1 r2 r3 r4 r5 wd tp wm tm a0 b0 v0 cap n fa fb fv  (by omega) (by omega) (by omega) wi (by omega)) (cwV 1 hts gX3_forget_X3_numbers rfl rfl rfl (by decide +kernel) ⟨Nat.le_of_ble_eq_true rfl, Nat.le_of_ble_eq_true rfl⟩) (z_preV hK hP [0, 3, 4, 5, 6] rfl 3 0 rfl rfl) rfl rfl hl.1 rfl (lv_room (Nat.le_of_ble_eq_true rfl)) dX3_forget_15 ⟨Nat.zero_le _, Nat.zero_le _⟩)) (fun r_2 hr_2 => ?_)
    replace hr_2 := hr_2.symm
    subst hr_2
    have hnl : nmF n fa wi ≤ n := cntF_le _ _
    refine lv_istore_n (lv' := [(2, .int (nI (nmF n fa wi))), (1, .int (nI wi)), (0, .ref y)]) hx hb dX3_forget_18 rfl hl (by decide) rfl (fun ls hl => ?_)
    refine lv_aload_n hx hb dX3_forget_19 rfl (lv_at hl 2 rfl) ?_
    refine lv_iconst (v := nI 0) hx hb dX3_forget_20 (by decide) ?_
    refine va_put (D := D) (ci := 3) (v := .int (nI 0)) (ty := .int) (C := RX3) (T := TX3) (N := 10) hx hb hts lk1 tyX3 tyX3_ok nmX3 hown hK hP hD hS 0 rfl rfl 9 (by decide) lk0 (fun _ h9 => h9) rfl (by decide +kernel) rfl rfl (Nat.le_of_ble_eq_true rfl) dX3_forget_21 (fun H locs hP hD hS => ?_)
    have hP : va_P D vwCl [(y, .inr (3, [.ref r0, .ref r1, .ref r2, .ref r3, .ref r4, .ref r5, .ref wd, .ref tp, .int (nI wm), .int (nI 0)])), (wd, .inl (cI, wc, .inl fw)), (tp, .inl (cI, 12, .inl ft)), (r5, .inr (2, [.ref a0, .ref b0, .ref v0, .int (nI n)])), (a0, .inl (cI, cap, .inl fa)), (b0, .inl (cI, cap, .inl fb)), (v0, .inl (cJ, cap, .inr (.inl fv)))] H := hP
    have hD : va_D A [(y, .inr (3, [.ref r0, .ref r1, .ref r2, .ref r3, .ref r4, .ref r5, .ref wd, .ref tp, .int (nI wm), .int (nI 0)])), (wd, .inl (cI, wc, .inl fw)), (tp, .inl (cI, 12, .inl ft)), (r5, .inr (2, [.ref a0, .ref b0, .ref v0, .int (nI n)])), (a0, .inl (cI, cap, .inl fa)), (b0, .inl (cI, cap, .inl fb)), (v0, .inl (cJ, cap, .inr (.inl fv)))] := hD
    refine lv_aload_n hx hb dX3_forget_24 rfl (lv_at hl 2 rfl) ?_
    refine va_get (D := D) (ci := 3) (v := .ref r5) (C := RX3) (T := TX3) (N := 10) hx hb hts lk1 hown hK hP 0 rfl rfl 5 (by decide) lk2 (fun _ h9 => h9) rfl dX3_forget_25 ?_
    refine va_get (D := D) (ci := 2) (v := .int (nI n)) (C := RX2) (T := TX2) (N := 4) hx hb hts lk4 hown hK hP 3 rfl rfl 3 (by decide) lk3 (fun _ h9 => h9) rfl dX3_forget_28 ?_
    refine lv_iconst (v := nI 1) hx hb dX3_forget_31 (by decide) ?_
    refine lv_isub hx hb dX3_forget_32 ?_
    refine z_topi (y := off n) (off_sub) ?_
    refine lv_istore_n (lv' := [(3, .int (off n)), (2, .int (nI (nmF n fa wi))), (1, .int (nI wi)), (0, .ref y)]) hx hb dX3_forget_33 rfl hl (by decide) rfl (fun ls hl => ?_)
    refine z_loopw (σ := Nat × Nat × (Nat → Int32) × (Nat → Int32) × (Nat → Int64)) (fun (k, m, fa1, fb1, fv1) => k) (fun (k, m, fa1, fb1, fv1) H locs ls => va_P D vwCl [(y, .inr (3, [.ref r0, .ref r1, .ref r2, .ref r3, .ref r4, .ref r5, .ref wd, .ref tp, .int (nI wm), .int (nI 0)])), (wd, .inl (cI, wc, .inl fw)), (tp, .inl (cI, 12, .inl ft)), (r5, .inr (2, [.ref a0, .ref b0, .ref v0, .int (nI m)])), (a0, .inl (cI, cap, .inl fa1)), (b0, .inl (cI, cap, .inl fb1)), (v0, .inl (cJ, cap, .inr (.inl fv1)))] H ∧ va_D A [(y, .inr (3, [.ref r0, .ref r1, .ref r2, .ref r3, .ref r4, .ref r5, .ref wd, .ref tp, .int (nI wm), .int (nI 0)])), (wd, .inl (cI, wc, .inl fw)), (tp, .inl (cI, 12, .inl ft)), (r5, .inr (2, [.ref a0, .ref b0, .ref v0, .int (nI m)])), (a0, .inl (cI, cap, .inl fa1)), (b0, .inl (cI, cap, .inl fb1)), (v0, .inl (cJ, cap, .inr (.inl fv1)))] ∧ va_S A s.heap H locs ∧ lv_has ls 4 [(0, .ref y), (1, .int (nI wi)), (2, .int (nI (nmF n fa wi))), (3, .int (off k))] ∧ (k ≤ n) ∧ (m ≤ n) ∧ (FD (fun e => pB (¬ e.1 = nI wi)) (rl n fa fb fv) k (rl m fa1 fb1 fv1))) ?_ ((n, n, fa, fb, fv)) _ _ _ ⟨hP, hD, hS, lv_sub hl [3, 2, 1, 0] rfl, Nat.le_refl _, Nat.le_refl _, by have h := FD.init (fun e => pB (¬ e.1 = nI wi)) (rl n fa fb fv); rw [rl_len] at h; exact h⟩
    rintro ⟨k, m, fa1, fb1, fv1⟩ H locs ls ⟨hP, hD, hS, hl, hkn, hmn, hF⟩ ih
    have hP : va_P D vwCl [(y, .inr (3, [.ref r0, .ref r1, .ref r2, .ref r3, .ref r4, .ref r5, .ref wd, .ref tp, .int (nI wm), .int (nI 0)])), (wd, .inl (cI, wc, .inl fw)), (tp, .inl (cI, 12, .inl ft)), (r5, .inr (2, [.ref a0, .ref b0, .ref v0, .int (nI m)])), (a0, .inl (cI, cap, .inl fa1)), (b0, .inl (cI, cap, .inl fb1)), (v0, .inl (cJ, cap, .inr (.inl fv1)))] H := hP
    have hl : lv_has ls 4 [(0, .ref y), (1, .int (nI wi)), (2, .int (nI (nmF n fa wi))), (3, .int (off k))] := hl
    refine lv_iload_n hx hb dX3_forget_34 rfl (lv_at hl 3 rfl) ?_
    refine lv_if_lt (tgt := 69) hx hb dX3_forget_35 (by decide) (fun c_35 => ?_) (fun c_35 => ?_)
    · refine lv_iload_n hx hb dX3_forget_69 rfl (lv_at hl 2 rfl) ?_
      refine z_if_ne (tgt := 77) hx hb dX3_forget_70 (by decide) (by omega) (fun c_70 => ?_) (fun c_70 => ?_)
      · refine lv_iload_n hx hb dX3_forget_77 rfl (lv_at hl 2 rfl) ?_
        exact W.iret (v := nI (nmF n fa wi)) hx hb hr (fun t ht hW => ⟨⟨nI (nmF n fa wi), (a0, b0, v0, cap, m, fa1, fb1, fv1), rfl, ⟨⟨by omega, h16, hc⟩, Or.inl ⟨wi, hwi, hwe, FD.fin (by rw [(off_neg (by omega)).mp c_35] at hF; exact hF), Or.inr ⟨c_70, rfl⟩⟩⟩, by rw [ht]; exact hP, va_K.moved hW.alike hK, hD⟩, hS.F ht⟩) hS.2.2 dX3_forget_78
      · refine lv_iconst (v := (-1)) hx hb dX3_forget_73 (by decide) ?_
        refine lv_goto (tgt := 78) hx hb dX3_forget_74 (by decide) ?_
        exact W.iret (v := (-1)) hx hb hr (fun t ht hW => ⟨⟨(-1), (a0, b0, v0, cap, m, fa1, fb1, fv1), rfl, ⟨⟨by omega, h16, hc⟩, Or.inl ⟨wi, hwi, hwe, FD.fin (by rw [(off_neg (by omega)).mp c_35] at hF; exact hF), Or.inl ⟨c_70, rfl⟩⟩⟩, by rw [ht]; exact hP, va_K.moved hW.alike hK, hD⟩, hS.F ht⟩) hS.2.2 dX3_forget_78
    · obtain ⟨k1, rfl⟩ : ∃ k1, k = k1 + 1 := ⟨k - 1, by have h : ¬ k = 0 := fun q => c_35 ((off_neg (by omega)).mpr q); omega⟩
      rw [off_p k1] at hl
      have hFl := hF.len (by rw [rl_len]; omega)
      rw [rl_len, rl_len] at hFl
      have hFe : (rl m fa1 fb1 fv1)[k1]? = (rl n fa fb fv)[k1]? := hF.get (by rw [rl_len]; omega)
      rw [rl_get (show k1 < m by omega)] at hFe
      have hl : lv_has ls 4 [(0, .ref y), (1, .int (nI wi)), (2, .int (nI (nmF n fa wi))), (3, .int (nI k1))] := hl
      refine lv_iload_n hx hb dX3_forget_38 rfl (lv_at hl 1 rfl) ?_
      refine z_if_lt (tgt := 63) hx hb dX3_forget_39 (by decide) (by omega) ?_
      refine lv_aload_n hx hb dX3_forget_42 rfl (lv_at hl 0 rfl) ?_
      refine va_get (D := D) (ci := 3) (v := .ref r5) (C := RX3) (T := TX3) (N := 10) hx hb hts lk1 hown hK hP 0 rfl rfl 5 (by decide) lk2 (fun _ h9 => h9) rfl dX3_forget_43 ?_
      refine va_get (D := D) (ci := 2) (v := .ref a0) (C := RX2) (T := TX2) (N := 4) hx hb hts lk4 hown hK hP 3 rfl rfl 0 (by decide) lk5 (fun _ h9 => h9) rfl dX3_forget_46 ?_
      refine lv_iload_n hx hb dX3_forget_49 rfl (lv_at hl 3 rfl) ?_
      refine z_iald hx hb hK hP 4 rfl (j := k1) (by omega) (by omega) dX3_forget_50 ?_
      refine lv_iload_n hx hb dX3_forget_51 rfl (lv_at hl 1 rfl) ?_
      refine lv_icmp_ne (tgt := 63) hx hb dX3_forget_52 (by decide) (fun c_52 => ?_) (fun c_52 => ?_)
      · refine lv_iinc (v := off k1) (lv' := [(3, .int (off k1)), (0, .ref y), (1, .int (nI wi)), (2, .int (nI (nmF n fa wi)))]) hx hb dX3_forget_63 hl (k := 3) rfl (off_m k1) (by decide) rfl (fun ls hl => ?_)
        refine lv_goto (tgt := 34) hx hb dX3_forget_66 (by decide) ?_
        exact ih ((k1, m, fa1, fb1, fv1)) _ _ _ ⟨hP, hD, hS, lv_sub hl [1, 2, 3, 0] rfl, by omega, by omega, hF.keep hFe.symm (pB_t c_52)⟩ (by first | omega | (dsimp only; omega))
      · refine lv_aload_n hx hb dX3_forget_55 rfl (lv_at hl 0 rfl) ?_
        refine va_get (D := D) (ci := 3) (v := .ref r5) (C := RX3) (T := TX3) (N := 10) hx hb hts lk1 hown hK hP 0 rfl rfl 5 (by decide) lk2 (fun _ h9 => h9) rfl dX3_forget_56 ?_
        refine lv_iload_n hx hb dX3_forget_59 rfl (lv_at hl 3 rfl) ?_
        have hFc := va_free (wc := [(r5, .inr (2, [.ref a0, .ref b0, .ref v0, .int (nI m)])), (a0, .inl (cI, cap, .inl fa1)), (b0, .inl (cI, cap, .inl fb1)), (v0, .inl (cJ, cap, .inr (.inl fv1)))]) hD hS hA [3, 4, 5, 6] rfl
        refine va_callv (va_runV (As := [.int (nI k1)]) (rest := []) ⟨hx, hb, hml, hown, hts⟩ (c_X2_remove l D cI cJ r5 a0 b0 v0 cap m fa1 fb1 fv1 k1 (by omega) (by omega) (by omega) H.size) (cwV 1 hts gX3_forget_X2_remove rfl rfl rfl (by decide +kernel) ⟨Nat.le_of_ble_eq_true rfl, Nat.le_of_ble_eq_true rfl⟩) (z_preVw hK hP hD [3, 4, 5, 6] (by decide) rfl rfl 2 3 rfl rfl) rfl rfl hl.1 rfl (lv_room (Nat.le_of_ble_eq_true rfl)) dX3_forget_60 ⟨Nat.zero_le _, Nat.zero_le _⟩) hS (fun q _ h => hFc q h) hFc (fun u_4 t H1 locs ht hvm hr_3 hB hzz1 hkk1 hS => ?_)
        obtain ⟨hP1, hK1, hD1⟩ := hB
        rw [ht] at hP1
        try dsimp only at hr_3
        obtain ⟨hP, hD⟩ := va_join (wr := [(y, .inr (3, [.ref r0, .ref r1, .ref r2, .ref r3, .ref r4, .ref r5, .ref wd, .ref tp, .int (nI wm), .int (nI 0)])), (wd, .inl (cI, wc, .inl fw)), (tp, .inl (cI, 12, .inl ft))]) (w1 := [(r5, .inr (2, [.ref a0, .ref b0, .ref v0, .int (nI (m - 1))])), (a0, .inl (cI, cap, .inl (shf fa1 k1 (m - 1)))), (b0, .inl (cI, cap, .inl (shf fb1 k1 (m - 1)))), (v0, .inl (cJ, cap, .inr (.inl (shf fv1 k1 (m - 1)))))]) hP hD [3, 4, 5, 6] [0, 1, 2] rfl rfl (by decide) (by decide) hkk1 hFc hP1 hD1
        generalize H1 = H at hP hS ⊢
        have hP : va_P D vwCl [(y, .inr (3, [.ref r0, .ref r1, .ref r2, .ref r3, .ref r4, .ref r5, .ref wd, .ref tp, .int (nI wm), .int (nI 0)])), (wd, .inl (cI, wc, .inl fw)), (tp, .inl (cI, 12, .inl ft)), (r5, .inr (2, [.ref a0, .ref b0, .ref v0, .int (nI (m - 1))])), (a0, .inl (cI, cap, .inl (shf fa1 k1 (m - 1)))), (b0, .inl (cI, cap, .inl (shf fb1 k1 (m - 1)))), (v0, .inl (cJ, cap, .inr (.inl (shf fv1 k1 (m - 1)))))] H := hP.sub [0, 1, 2, 3, 4, 5, 6] rfl
        have hD : va_D A [(y, .inr (3, [.ref r0, .ref r1, .ref r2, .ref r3, .ref r4, .ref r5, .ref wd, .ref tp, .int (nI wm), .int (nI 0)])), (wd, .inl (cI, wc, .inl fw)), (tp, .inl (cI, 12, .inl ft)), (r5, .inr (2, [.ref a0, .ref b0, .ref v0, .int (nI (m - 1))])), (a0, .inl (cI, cap, .inl (shf fa1 k1 (m - 1)))), (b0, .inl (cI, cap, .inl (shf fb1 k1 (m - 1)))), (v0, .inl (cJ, cap, .inr (.inl (shf fv1 k1 (m - 1)))))] := hD.sub [0, 1, 2, 3, 4, 5, 6] (by decide) rfl
        refine lv_iinc (v := off k1) (lv' := [(3, .int (off k1)), (0, .ref y), (1, .int (nI wi)), (2, .int (nI (nmF n fa wi)))]) hx hb dX3_forget_63 hl (k := 3) rfl (off_m k1) (by decide) rfl (fun ls hl => ?_)
        refine lv_goto (tgt := 34) hx hb dX3_forget_66 (by decide) ?_
        exact ih ((k1, m - 1, shf fa1 k1 (m - 1), shf fb1 k1 (m - 1), shf fv1 k1 (m - 1))) _ _ _ ⟨hP, hD, hS, lv_sub hl [1, 2, 3, 0] rfl, by omega, by omega, by rw [rl_era (show k1 < m by omega)]; exact hF.del hFe.symm (pB_f (fun q => q c_52))⟩ (by first | omega | (dsimp only; omega))
  · refine lv_istore_n (lv' := [(1, .int (-1)), (0, .ref y)]) hx hb dX3_forget_4 rfl hl (by decide) rfl (fun ls hl => ?_)
    refine lv_iload_n hx hb dX3_forget_5 rfl (lv_at hl 0 rfl) ?_
    refine lv_if_ge (tgt := 13) hx hb dX3_forget_6 (by decide) (fun q => absurd q (by decide)) (fun _ => ?_)
    refine lv_iconst (v := nI 0) hx hb dX3_forget_9 (by decide) ?_
    refine lv_goto (tgt := 18) hx hb dX3_forget_10 (by decide) ?_
    refine lv_istore_n (lv' := [(2, .int (nI 0)), (1, .int (-1)), (0, .ref y)]) hx hb dX3_forget_18 rfl hl (by decide) rfl (fun ls hl => ?_)
    refine lv_aload_n hx hb dX3_forget_19 rfl (lv_at hl 2 rfl) ?_
    refine lv_iconst (v := nI 0) hx hb dX3_forget_20 (by decide) ?_
    refine va_put (D := D) (ci := 3) (v := .int (nI 0)) (ty := .int) (C := RX3) (T := TX3) (N := 10) hx hb hts lk1 tyX3 tyX3_ok nmX3 hown hK hP hD hS 0 rfl rfl 9 (by decide) lk0 (fun _ h9 => h9) rfl (by decide +kernel) rfl rfl (Nat.le_of_ble_eq_true rfl) dX3_forget_21 (fun H locs hP hD hS => ?_)
    have hP : va_P D vwCl [(y, .inr (3, [.ref r0, .ref r1, .ref r2, .ref r3, .ref r4, .ref r5, .ref wd, .ref tp, .int (nI wm), .int (nI 0)])), (wd, .inl (cI, wc, .inl fw)), (tp, .inl (cI, 12, .inl ft)), (r5, .inr (2, [.ref a0, .ref b0, .ref v0, .int (nI n)])), (a0, .inl (cI, cap, .inl fa)), (b0, .inl (cI, cap, .inl fb)), (v0, .inl (cJ, cap, .inr (.inl fv)))] H := hP
    have hD : va_D A [(y, .inr (3, [.ref r0, .ref r1, .ref r2, .ref r3, .ref r4, .ref r5, .ref wd, .ref tp, .int (nI wm), .int (nI 0)])), (wd, .inl (cI, wc, .inl fw)), (tp, .inl (cI, 12, .inl ft)), (r5, .inr (2, [.ref a0, .ref b0, .ref v0, .int (nI n)])), (a0, .inl (cI, cap, .inl fa)), (b0, .inl (cI, cap, .inl fb)), (v0, .inl (cJ, cap, .inr (.inl fv)))] := hD
    refine lv_aload_n hx hb dX3_forget_24 rfl (lv_at hl 2 rfl) ?_
    refine va_get (D := D) (ci := 3) (v := .ref r5) (C := RX3) (T := TX3) (N := 10) hx hb hts lk1 hown hK hP 0 rfl rfl 5 (by decide) lk2 (fun _ h9 => h9) rfl dX3_forget_25 ?_
    refine va_get (D := D) (ci := 2) (v := .int (nI n)) (C := RX2) (T := TX2) (N := 4) hx hb hts lk4 hown hK hP 3 rfl rfl 3 (by decide) lk3 (fun _ h9 => h9) rfl dX3_forget_28 ?_
    refine lv_iconst (v := nI 1) hx hb dX3_forget_31 (by decide) ?_
    refine lv_isub hx hb dX3_forget_32 ?_
    refine z_topi (y := off n) (off_sub) ?_
    refine lv_istore_n (lv' := [(3, .int (off n)), (2, .int (nI 0)), (1, .int (-1)), (0, .ref y)]) hx hb dX3_forget_33 rfl hl (by decide) rfl (fun ls hl => ?_)
    refine z_loopw (σ := Nat × Nat × (Nat → Int32) × (Nat → Int32) × (Nat → Int64)) (fun (k, m, fa1, fb1, fv1) => k) (fun (k, m, fa1, fb1, fv1) H locs ls => va_P D vwCl [(y, .inr (3, [.ref r0, .ref r1, .ref r2, .ref r3, .ref r4, .ref r5, .ref wd, .ref tp, .int (nI wm), .int (nI 0)])), (wd, .inl (cI, wc, .inl fw)), (tp, .inl (cI, 12, .inl ft)), (r5, .inr (2, [.ref a0, .ref b0, .ref v0, .int (nI m)])), (a0, .inl (cI, cap, .inl fa1)), (b0, .inl (cI, cap, .inl fb1)), (v0, .inl (cJ, cap, .inr (.inl fv1)))] H ∧ va_D A [(y, .inr (3, [.ref r0, .ref r1, .ref r2, .ref r3, .ref r4, .ref r5, .ref wd, .ref tp, .int (nI wm), .int (nI 0)])), (wd, .inl (cI, wc, .inl fw)), (tp, .inl (cI, 12, .inl ft)), (r5, .inr (2, [.ref a0, .ref b0, .ref v0, .int (nI m)])), (a0, .inl (cI, cap, .inl fa1)), (b0, .inl (cI, cap, .inl fb1)), (v0, .inl (cJ, cap, .inr (.inl fv1)))] ∧ va_S A s.heap H locs ∧ lv_has ls 4 [(0, .ref y), (1, .int (-1)), (2, .int (nI 0)), (3, .int (off k))] ∧ (k ≤ n) ∧ (m ≤ n) ∧ (FD (fun _ => true) (rl n fa fb fv) k (rl m fa1 fb1 fv1))) ?_ ((n, n, fa, fb, fv)) _ _ _ ⟨hP, hD, hS, lv_sub hl [3, 2, 1, 0] rfl, Nat.le_refl _, Nat.le_refl _, by have h := FD.init (fun _ => true) (rl n fa fb fv); rw [rl_len] at h; exact h⟩
    rintro ⟨k, m, fa1, fb1, fv1⟩ H locs ls ⟨hP, hD, hS, hl, hkn, hmn, hF⟩ ih
    have hP : va_P D vwCl [(y, .inr (3, [.ref r0, .ref r1, .ref r2, .ref r3, .ref r4, .ref r5, .ref wd, .ref tp, .int (nI wm), .int (nI 0)])), (wd, .inl (cI, wc, .inl fw)), (tp, .inl (cI, 12, .inl ft)), (r5, .inr (2, [.ref a0, .ref b0, .ref v0, .int (nI m)])), (a0, .inl (cI, cap, .inl fa1)), (b0, .inl (cI, cap, .inl fb1)), (v0, .inl (cJ, cap, .inr (.inl fv1)))] H := hP
    have hl : lv_has ls 4 [(0, .ref y), (1, .int (-1)), (2, .int (nI 0)), (3, .int (off k))] := hl
    refine lv_iload_n hx hb dX3_forget_34 rfl (lv_at hl 3 rfl) ?_
    refine lv_if_lt (tgt := 69) hx hb dX3_forget_35 (by decide) (fun c_35 => ?_) (fun c_35 => ?_)
    · refine lv_iload_n hx hb dX3_forget_69 rfl (lv_at hl 2 rfl) ?_
      refine lv_if_ne (tgt := 77) hx hb dX3_forget_70 (by decide) (fun q => absurd (by decide) q) (fun _ => ?_)
      refine lv_iconst (v := (-1)) hx hb dX3_forget_73 (by decide) ?_
      refine lv_goto (tgt := 78) hx hb dX3_forget_74 (by decide) ?_
      exact W.iret (v := (-1)) hx hb hr (fun t ht hW => ⟨⟨(-1), (a0, b0, v0, cap, m, fa1, fb1, fv1), rfl, ⟨⟨by omega, h16, hc⟩, Or.inr ⟨hwn, (FD.fin (by rw [(off_neg (by omega)).mp c_35] at hF; exact hF)).trans (by simp), rfl⟩⟩, by rw [ht]; exact hP, va_K.moved hW.alike hK, hD⟩, hS.F ht⟩) hS.2.2 dX3_forget_78
    · obtain ⟨k1, rfl⟩ : ∃ k1, k = k1 + 1 := ⟨k - 1, by have h : ¬ k = 0 := fun q => c_35 ((off_neg (by omega)).mpr q); omega⟩
      rw [off_p k1] at hl
      have hFl := hF.len (by rw [rl_len]; omega)
      rw [rl_len, rl_len] at hFl
      have hFe : (rl m fa1 fb1 fv1)[k1]? = (rl n fa fb fv)[k1]? := hF.get (by rw [rl_len]; omega)
      rw [rl_get (show k1 < m by omega)] at hFe
      have hl : lv_has ls 4 [(0, .ref y), (1, .int (-1)), (2, .int (nI 0)), (3, .int (nI k1))] := hl
      refine lv_iload_n hx hb dX3_forget_38 rfl (lv_at hl 1 rfl) ?_
      refine lv_if_lt (tgt := 63) hx hb dX3_forget_39 (by decide) (fun _ => ?_) (fun q => absurd (by decide) q)
      refine lv_iinc (v := off k1) (lv' := [(3, .int (off k1)), (0, .ref y), (1, .int (-1)), (2, .int (nI 0))]) hx hb dX3_forget_63 hl (k := 3) rfl (off_m k1) (by decide) rfl (fun ls hl => ?_)
      refine lv_goto (tgt := 34) hx hb dX3_forget_66 (by decide) ?_
      exact ih ((k1, m, fa1, fb1, fv1)) _ _ _ ⟨hP, hD, hS, lv_sub hl [1, 2, 3, 0] rfl, by omega, by omega, hF.keep hFe.symm rfl⟩ (by first | omega | (dsimp only; omega))

set_option maxHeartbeats 4000000 in
set_option maxRecDepth 100000 in
theorem c_X3_next (l : Launch) (D : va_G) (cI cJ : ClassId) (y r0 r1 r2 r3 r4 r5 wd tp wm tm : Nat) (wc : Nat) (fw : Nat → Int32) (hwc : 12 * wm ≤ wc) (hwc2 : wc ≤ 1176) (ft : Nat → Int32) (htm : tm ≤ 12) (a0 b0 v0 cap n : Nat) (fa fb : Nat → Int32) (fv : Nat → Int64) (hn : n ≤ cap) (hc : cap ≤ 1100) (h16 : 16 ≤ cap) (sz : Nat) : Met l yX3_next wsX3_next { frames := 2, cells := 0, slots := 0, locals := 45 } (va_Pc [.ref y] (wP D cI cJ [(y, .inr (3, [.ref r0, .ref r1, .ref r2, .ref r3, .ref r4, .ref r5, .ref wd, .ref tp, .int (nI wm), .int (nI tm)])), (wd, .inl (cI, wc, .inl fw)), (tp, .inl (cI, 12, .inl ft)), (r5, .inr (2, [.ref a0, .ref b0, .ref v0, .int (nI n)])), (a0, .inl (cI, cap, .inl fa)), (b0, .inl (cI, cap, .inl fb)), (v0, .inl (cJ, cap, .inr (.inl fv)))] sz)) (va_Qi (fun r (u : (Nat → Int32) × Nat) => r = nI u.2 ∧ u.2 ≤ 12 ∧ ((NxI wm fw (fun w => 0 < nmF n fa w ∧ vW (tS tm ft) < vW (wF fw w)) none ∧ u.2 = 0) ∨ ∃ b, NxI wm fw (fun w => 0 < nmF n fa w ∧ vW (tS tm ft) < vW (wF fw w)) (some b) ∧ (∀ j, j < u.2 → u.1 j = wF fw b j ∧ wF fw b j ≠ 0) ∧ (u.2 < 12 → wF fw b u.2 = 0))) (wB D cI cJ (va_A [(y, .inr (3, [.ref r0, .ref r1, .ref r2, .ref r3, .ref r4, .ref r5, .ref wd, .ref tp, .int (nI wm), .int (nI tm)])), (wd, .inl (cI, wc, .inl fw)), (tp, .inl (cI, 12, .inl ft)), (r5, .inr (2, [.ref a0, .ref b0, .ref v0, .int (nI n)])), (a0, .inl (cI, cap, .inl fa)), (b0, .inl (cI, cap, .inl fb)), (v0, .inl (cJ, cap, .inr (.inl fv)))] sz) (fun (ft', tm') => [(y, .inr (3, [.ref r0, .ref r1, .ref r2, .ref r3, .ref r4, .ref r5, .ref wd, .ref tp, .int (nI wm), .int (nI tm')])), (wd, .inl (cI, wc, .inl fw)), (tp, .inl (cI, 12, .inl ft')), (r5, .inr (2, [.ref a0, .ref b0, .ref v0, .int (nI n)])), (a0, .inl (cI, cap, .inl fa)), (b0, .inl (cI, cap, .inl fb)), (v0, .inl (cJ, cap, .inr (.inl fv)))])) (va_A [(y, .inr (3, [.ref r0, .ref r1, .ref r2, .ref r3, .ref r4, .ref r5, .ref wd, .ref tp, .int (nI wm), .int (nI tm)])), (wd, .inl (cI, wc, .inl fw)), (tp, .inl (cI, 12, .inl ft)), (r5, .inr (2, [.ref a0, .ref b0, .ref v0, .int (nI n)])), (a0, .inl (cI, cap, .inl fa)), (b0, .inl (cI, cap, .inl fb)), (v0, .inl (cJ, cap, .inr (.inl fv)))] sz)) 0 0 (va_A [(y, .inr (3, [.ref r0, .ref r1, .ref r2, .ref r3, .ref r4, .ref r5, .ref wd, .ref tp, .int (nI wm), .int (nI tm)])), (wd, .inl (cI, wc, .inl fw)), (tp, .inl (cI, 12, .inl ft)), (r5, .inr (2, [.ref a0, .ref b0, .ref v0, .int (nI n)])), (a0, .inl (cI, cap, .inl fa)), (b0, .inl (cI, cap, .inl fb)), (v0, .inl (cJ, cap, .inr (.inl fv)))] sz) := by
  refine Met.ofW (cc := cX3_next) (maxL := 3) (ret := (some .int)) (by decide) rfl ?_
  intro p e s m args below meth c s₁ B hml hv
  obtain ⟨rfl, hsz, hP, hK, hD0⟩ := hv
  have hx := B.exec
  have hb := B.bytes
  have hr := B.returns
  have hts := atoms_spec (ws := wsX3_next) B.pre
  have hown : s.vm.findClass RX3 = some m.cls := findClass_of_methodNamed B.named
  have hlocks := B.notSynchronized
  have lk0 := hts (.fieldLink RX3 92 "KeyHallModel" "wordMany" "I") (by decide +kernel)
  have lk1 : ∀ w ∈ wsX30, w ∈ wsX3_next := by decide +kernel
  have lk2 := hts (.fieldLink RX3 82 "KeyHallModel" "tapeMany" "I") (by decide +kernel)
  have lk3 := hts (.fieldLink RX3 35 "KeyHallModel" "tape" "[I") (by decide +kernel)
  subst hsz
  have hD := hD0.self (sz := s.heap.size)
  generalize hAe : va_A [(y, .inr (3, [.ref r0, .ref r1, .ref r2, .ref r3, .ref r4, .ref r5, .ref wd, .ref tp, .int (nI wm), .int (nI tm)])), (wd, .inl (cI, wc, .inl fw)), (tp, .inl (cI, 12, .inl ft)), (r5, .inr (2, [.ref a0, .ref b0, .ref v0, .int (nI n)])), (a0, .inl (cI, cap, .inl fa)), (b0, .inl (cI, cap, .inl fb)), (v0, .inl (cJ, cap, .inr (.inl fv)))] s.heap.size = A at hD ⊢
  have hA : ∀ q : Nat, s.heap.size ≤ q → A q := fun q h => by rw [← hAe]; exact Or.inr h
  have hS : va_S A s.heap s.heap [] := va_S.rf
  have hP : va_P D vwCl [(y, .inr (3, [.ref r0, .ref r1, .ref r2, .ref r3, .ref r4, .ref r5, .ref wd, .ref tp, .int (nI wm), .int (nI tm)])), (wd, .inl (cI, wc, .inl fw)), (tp, .inl (cI, 12, .inl ft)), (r5, .inr (2, [.ref a0, .ref b0, .ref v0, .int (nI n)])), (a0, .inl (cI, cap, .inl fa)), (b0, .inl (cI, cap, .inl fb)), (v0, .inl (cJ, cap, .inr (.inl fv)))] s.heap := hP
  have hl := lv_entry ([.ref y]) (n := 3) (Nat.le_of_ble_eq_true rfl)
  rw [lg_entry_eq]
  generalize (lg_sl ([.ref y]) ++ List.replicate (3 - (lg_sl ([.ref y])).length) Slot.unset).toArray = ls at hl ⊢
  have hl : lv_has ls 3 [(0, .ref y)] := hl
  refine lv_iconst (v := (-1)) hx hb dX3_next_0 (by decide) ?_
  refine lv_istore_n (lv' := [(1, .int (-1)), (0, .ref y)]) hx hb dX3_next_1 rfl hl (by decide) rfl (fun ls hl => ?_)
  refine lv_iconst (v := nI 0) hx hb dX3_next_2 (by decide) ?_
  refine lv_istore_n (lv' := [(2, .int (nI 0)), (1, .int (-1)), (0, .ref y)]) hx hb dX3_next_3 rfl hl (by decide) rfl (fun ls hl => ?_)
  refine z_loopw (σ := Nat × Option Nat) (fun (i, o) => wm - i) (fun (i, o) H locs ls => va_P D vwCl [(y, .inr (3, [.ref r0, .ref r1, .ref r2, .ref r3, .ref r4, .ref r5, .ref wd, .ref tp, .int (nI wm), .int (nI tm)])), (wd, .inl (cI, wc, .inl fw)), (tp, .inl (cI, 12, .inl ft)), (r5, .inr (2, [.ref a0, .ref b0, .ref v0, .int (nI n)])), (a0, .inl (cI, cap, .inl fa)), (b0, .inl (cI, cap, .inl fb)), (v0, .inl (cJ, cap, .inr (.inl fv)))] H ∧ va_D A [(y, .inr (3, [.ref r0, .ref r1, .ref r2, .ref r3, .ref r4, .ref r5, .ref wd, .ref tp, .int (nI wm), .int (nI tm)])), (wd, .inl (cI, wc, .inl fw)), (tp, .inl (cI, 12, .inl ft)), (r5, .inr (2, [.ref a0, .ref b0, .ref v0, .int (nI n)])), (a0, .inl (cI, cap, .inl fa)), (b0, .inl (cI, cap, .inl fb)), (v0, .inl (cJ, cap, .inr (.inl fv)))] ∧ va_S A s.heap H locs ∧ lv_has ls 3 [(0, .ref y), (1, .int (oI o)), (2, .int (nI i))] ∧ (i ≤ wm) ∧ (NxI i fw (fun w => 0 < nmF n fa w ∧ vW (tS tm ft) < vW (wF fw w)) o)) ?_ ((0, none)) _ _ _ ⟨hP, hD, hS, lv_sub hl [2, 1, 0] rfl, Nat.zero_le _, fun j h => absurd h (Nat.not_lt_zero j)⟩
  rintro ⟨i, o⟩ H locs ls ⟨hP, hD, hS, hl, hi, hns⟩ ih
  have hP : va_P D vwCl [(y, .inr (3, [.ref r0, .ref r1, .ref r2, .ref r3, .ref r4, .ref r5, .ref wd, .ref tp, .int (nI wm), .int (nI tm)])), (wd, .inl (cI, wc, .inl fw)), (tp, .inl (cI, 12, .inl ft)), (r5, .inr (2, [.ref a0, .ref b0, .ref v0, .int (nI n)])), (a0, .inl (cI, cap, .inl fa)), (b0, .inl (cI, cap, .inl fb)), (v0, .inl (cJ, cap, .inr (.inl fv)))] H := hP
  have hl : lv_has ls 3 [(0, .ref y), (1, .int (oI o)), (2, .int (nI i))] := hl
  refine lv_iload_n hx hb dX3_next_4 rfl (lv_at hl 2 rfl) ?_
  refine lv_aload_n hx hb dX3_next_5 rfl (lv_at hl 0 rfl) ?_
  refine va_get (D := D) (ci := 3) (v := .int (nI wm)) (C := RX3) (T := TX3) (N := 10) hx hb hts lk1 hown hK hP 0 rfl rfl 8 (by decide) lk0 (fun _ h9 => h9) rfl dX3_next_6 ?_
  refine z_icmp_ge (tgt := 49) hx hb dX3_next_9 (by decide) (by omega) (by omega) (fun c_9 => ?_) (fun c_9 => ?_)
  · have hin : i = wm := Nat.le_antisymm hi c_9
    rw [hin] at hns
    rcases o with _ | bst
    · have hl : lv_has ls 3 [(0, .ref y), (1, .int (-1))] := lv_sub hl [0, 1] rfl
      refine lv_aload_n hx hb dX3_next_49 rfl (lv_at hl 0 rfl) ?_
      refine lv_iconst (v := nI 0) hx hb dX3_next_50 (by decide) ?_
      refine va_put (D := D) (ci := 3) (v := .int (nI 0)) (ty := .int) (C := RX3) (T := TX3) (N := 10) hx hb hts lk1 tyX3 tyX3_ok nmX3 hown hK hP hD hS 0 rfl rfl 9 (by decide) lk2 (fun _ h9 => h9) rfl (by decide +kernel) rfl rfl (Nat.le_of_ble_eq_true rfl) dX3_next_51 (fun H locs hP hD hS => ?_)
      have hP : va_P D vwCl [(y, .inr (3, [.ref r0, .ref r1, .ref r2, .ref r3, .ref r4, .ref r5, .ref wd, .ref tp, .int (nI wm), .int (nI 0)])), (wd, .inl (cI, wc, .inl fw)), (tp, .inl (cI, 12, .inl ft)), (r5, .inr (2, [.ref a0, .ref b0, .ref v0, .int (nI n)])), (a0, .inl (cI, cap, .inl fa)), (b0, .inl (cI, cap, .inl fb)), (v0, .inl (cJ, cap, .inr (.inl fv)))] H := hP
      have hD : va_D A [(y, .inr (3, [.ref r0, .ref r1, .ref r2, .ref r3, .ref r4, .ref r5, .ref wd, .ref tp, .int (nI wm), .int (nI 0)])), (wd, .inl (cI, wc, .inl fw)), (tp, .inl (cI, 12, .inl ft)), (r5, .inr (2, [.ref a0, .ref b0, .ref v0, .int (nI n)])), (a0, .inl (cI, cap, .inl fa)), (b0, .inl (cI, cap, .inl fb)), (v0, .inl (cJ, cap, .inr (.inl fv)))] := hD
      refine z_loopw (σ := Unit) (fun k0 => 0) (fun k0 H locs ls => va_P D vwCl [(y, .inr (3, [.ref r0, .ref r1, .ref r2, .ref r3, .ref r4, .ref r5, .ref wd, .ref tp, .int (nI wm), .int (nI 0)])), (wd, .inl (cI, wc, .inl fw)), (tp, .inl (cI, 12, .inl ft)), (r5, .inr (2, [.ref a0, .ref b0, .ref v0, .int (nI n)])), (a0, .inl (cI, cap, .inl fa)), (b0, .inl (cI, cap, .inl fb)), (v0, .inl (cJ, cap, .inr (.inl fv)))] H ∧ va_D A [(y, .inr (3, [.ref r0, .ref r1, .ref r2, .ref r3, .ref r4, .ref r5, .ref wd, .ref tp, .int (nI wm), .int (nI 0)])), (wd, .inl (cI, wc, .inl fw)), (tp, .inl (cI, 12, .inl ft)), (r5, .inr (2, [.ref a0, .ref b0, .ref v0, .int (nI n)])), (a0, .inl (cI, cap, .inl fa)), (b0, .inl (cI, cap, .inl fb)), (v0, .inl (cJ, cap, .inr (.inl fv)))] ∧ va_S A s.heap H locs ∧ lv_has ls 3 [(0, .ref y), (1, .int (-1))]) ?_ (()) _ _ _ ⟨hP, hD, hS, lv_sub hl [0, 1] rfl⟩
      rintro k0 H locs ls ⟨hP, hD, hS, hl⟩ ih
      have hP : va_P D vwCl [(y, .inr (3, [.ref r0, .ref r1, .ref r2, .ref r3, .ref r4, .ref r5, .ref wd, .ref tp, .int (nI wm), .int (nI 0)])), (wd, .inl (cI, wc, .inl fw)), (tp, .inl (cI, 12, .inl ft)), (r5, .inr (2, [.ref a0, .ref b0, .ref v0, .int (nI n)])), (a0, .inl (cI, cap, .inl fa)), (b0, .inl (cI, cap, .inl fb)), (v0, .inl (cJ, cap, .inr (.inl fv)))] H := hP
      have hl : lv_has ls 3 [(0, .ref y), (1, .int (-1))] := hl
      refine lv_iload_n hx hb dX3_next_54 rfl (lv_at hl 1 rfl) ?_
      refine lv_if_lt (tgt := 110) hx hb dX3_next_55 (by decide) (fun _ => ?_) (fun q => absurd (by decide) q)
      refine lv_aload_n hx hb dX3_next_110 rfl (lv_at hl 0 rfl) ?_
      refine va_get (D := D) (ci := 3) (v := .int (nI 0)) (C := RX3) (T := TX3) (N := 10) hx hb hts lk1 hown hK hP 0 rfl rfl 9 (by decide) lk2 (fun _ h9 => h9) rfl dX3_next_111 ?_
      exact W.iret (v := nI 0) hx hb hr (fun t ht hW => ⟨⟨nI 0, (ft, 0), rfl, ⟨rfl, Nat.zero_le 12, Or.inl ⟨hns, rfl⟩⟩, by rw [ht]; exact hP, va_K.moved hW.alike hK, hD⟩, hS.F ht⟩) hS.2.2 dX3_next_114
    · have hl : lv_has ls 3 [(0, .ref y), (1, .int (nI bst))] := lv_sub hl [0, 1] rfl
      have hbl : bst < wm := hns.1
      refine lv_aload_n hx hb dX3_next_49 rfl (lv_at hl 0 rfl) ?_
      refine lv_iconst (v := nI 0) hx hb dX3_next_50 (by decide) ?_
      refine va_put (D := D) (ci := 3) (v := .int (nI 0)) (ty := .int) (C := RX3) (T := TX3) (N := 10) hx hb hts lk1 tyX3 tyX3_ok nmX3 hown hK hP hD hS 0 rfl rfl 9 (by decide) lk2 (fun _ h9 => h9) rfl (by decide +kernel) rfl rfl (Nat.le_of_ble_eq_true rfl) dX3_next_51 (fun H locs hP hD hS => ?_)
      have hP : va_P D vwCl [(y, .inr (3, [.ref r0, .ref r1, .ref r2, .ref r3, .ref r4, .ref r5, .ref wd, .ref tp, .int (nI wm), .int (nI 0)])), (wd, .inl (cI, wc, .inl fw)), (tp, .inl (cI, 12, .inl ft)), (r5, .inr (2, [.ref a0, .ref b0, .ref v0, .int (nI n)])), (a0, .inl (cI, cap, .inl fa)), (b0, .inl (cI, cap, .inl fb)), (v0, .inl (cJ, cap, .inr (.inl fv)))] H := hP
      have hD : va_D A [(y, .inr (3, [.ref r0, .ref r1, .ref r2, .ref r3, .ref r4, .ref r5, .ref wd, .ref tp, .int (nI wm), .int (nI 0)])), (wd, .inl (cI, wc, .inl fw)), (tp, .inl (cI, 12, .inl ft)), (r5, .inr (2, [.ref a0, .ref b0, .ref v0, .int (nI n)])), (a0, .inl (cI, cap, .inl fa)), (b0, .inl (cI, cap, .inl fb)), (v0, .inl (cJ, cap, .inr (.inl fv)))] := hD
      refine z_loopw (σ := Nat × (Nat → Int32)) (fun (k, ft1) => 12 - k) (fun (k, ft1) H locs ls => va_P D vwCl [(y, .inr (3, [.ref r0, .ref r1, .ref r2, .ref r3, .ref r4, .ref r5, .ref wd, .ref tp, .int (nI wm), .int (nI k)])), (wd, .inl (cI, wc, .inl fw)), (tp, .inl (cI, 12, .inl ft1)), (r5, .inr (2, [.ref a0, .ref b0, .ref v0, .int (nI n)])), (a0, .inl (cI, cap, .inl fa)), (b0, .inl (cI, cap, .inl fb)), (v0, .inl (cJ, cap, .inr (.inl fv)))] H ∧ va_D A [(y, .inr (3, [.ref r0, .ref r1, .ref r2, .ref r3, .ref r4, .ref r5, .ref wd, .ref tp, .int (nI wm), .int (nI k)])), (wd, .inl (cI, wc, .inl fw)), (tp, .inl (cI, 12, .inl ft1)), (r5, .inr (2, [.ref a0, .ref b0, .ref v0, .int (nI n)])), (a0, .inl (cI, cap, .inl fa)), (b0, .inl (cI, cap, .inl fb)), (v0, .inl (cJ, cap, .inr (.inl fv)))] ∧ va_S A s.heap H locs ∧ lv_has ls 3 [(0, .ref y), (1, .int (nI bst))] ∧ (k ≤ 12) ∧ (∀ j, j < k → ft1 j = wF fw bst j ∧ wF fw bst j ≠ 0)) ?_ ((0, ft)) _ _ _ ⟨hP, hD, hS, lv_sub hl [0, 1] rfl, by decide, fun j h => absurd h (Nat.not_lt_zero j)⟩
      rintro ⟨k, ft1⟩ H locs ls ⟨hP, hD, hS, hl, hk, h1⟩ ih
      have hP : va_P D vwCl [(y, .inr (3, [.ref r0, .ref r1, .ref r2, .ref r3, .ref r4, .ref r5, .ref wd, .ref tp, .int (nI wm), .int (nI k)])), (wd, .inl (cI, wc, .inl fw)), (tp, .inl (cI, 12, .inl ft1)), (r5, .inr (2, [.ref a0, .ref b0, .ref v0, .int (nI n)])), (a0, .inl (cI, cap, .inl fa)), (b0, .inl (cI, cap, .inl fb)), (v0, .inl (cJ, cap, .inr (.inl fv)))] H := hP
      have hl : lv_has ls 3 [(0, .ref y), (1, .int (nI bst))] := hl
      refine lv_iload_n hx hb dX3_next_54 rfl (lv_at hl 1 rfl) ?_
      refine z_if_lt (tgt := 110) hx hb dX3_next_55 (by decide) (by omega) ?_
      refine lv_aload_n hx hb dX3_next_58 rfl (lv_at hl 0 rfl) ?_
      refine va_get (D := D) (ci := 3) (v := .int (nI k)) (C := RX3) (T := TX3) (N := 10) hx hb hts lk1 hown hK hP 0 rfl rfl 9 (by decide) lk2 (fun _ h9 => h9) rfl dX3_next_59 ?_
      refine lv_bipush (v := nI 12) hx hb dX3_next_62 (by decide) ?_
      refine z_icmp_ge (tgt := 110) hx hb dX3_next_64 (by decide) (by omega) (by omega) (fun c_64 => ?_) (fun c_64 => ?_)
      · refine lv_aload_n hx hb dX3_next_110 rfl (lv_at hl 0 rfl) ?_
        refine va_get (D := D) (ci := 3) (v := .int (nI k)) (C := RX3) (T := TX3) (N := 10) hx hb hts lk1 hown hK hP 0 rfl rfl 9 (by decide) lk2 (fun _ h9 => h9) rfl dX3_next_111 ?_
        exact W.iret (v := nI k) hx hb hr (fun t ht hW => ⟨⟨nI k, (ft1, k), rfl, ⟨rfl, hk, Or.inr ⟨bst, hns, h1, fun q => absurd q (by omega)⟩⟩, by rw [ht]; exact hP, va_K.moved hW.alike hK, hD⟩, hS.F ht⟩) hS.2.2 dX3_next_114
      · refine lv_aload_n hx hb dX3_next_67 rfl (lv_at hl 0 rfl) ?_
        refine lv_iload_n hx hb dX3_next_68 rfl (lv_at hl 1 rfl) ?_
        refine lv_aload_n hx hb dX3_next_69 rfl (lv_at hl 0 rfl) ?_
        refine va_get (D := D) (ci := 3) (v := .int (nI k)) (C := RX3) (T := TX3) (N := 10) hx hb hts lk1 hown hK hP 0 rfl rfl 9 (by decide) lk2 (fun _ h9 => h9) rfl dX3_next_70 ?_
        refine vp_callSi (va_Run.run (va_runV (As := [.int (nI bst), .int (nI k)]) (rest := []) ⟨hx, hb, hml, hown, hts⟩ (c_X3_signOf l D cI cJ y r0 r1 r2 r3 r4 r5 wd tp wm k wc fw bst k (by omega) (by omega)) (cwV 2 hts gX3_next_X3_signOf rfl rfl rfl (by decide +kernel) ⟨Nat.le_of_ble_eq_true rfl, Nat.le_of_ble_eq_true rfl⟩) (z_preV hK hP [0, 1] rfl 3 0 rfl rfl) rfl rfl hl.1 rfl (lv_room (Nat.le_of_ble_eq_true rfl)) dX3_next_73 ⟨Nat.zero_le _, Nat.zero_le _⟩)) (fun r_1 hr_1 => ?_)
        replace hr_1 := hr_1.symm
        subst hr_1
        refine lv_if_eq (tgt := 110) hx hb dX3_next_76 (by decide) (fun c_76 => ?_) (fun c_76 => ?_)
        · refine lv_aload_n hx hb dX3_next_110 rfl (lv_at hl 0 rfl) ?_
          refine va_get (D := D) (ci := 3) (v := .int (nI k)) (C := RX3) (T := TX3) (N := 10) hx hb hts lk1 hown hK hP 0 rfl rfl 9 (by decide) lk2 (fun _ h9 => h9) rfl dX3_next_111 ?_
          exact W.iret (v := nI k) hx hb hr (fun t ht hW => ⟨⟨nI k, (ft1, k), rfl, ⟨rfl, hk, Or.inr ⟨bst, hns, h1, fun _ => c_76⟩⟩, by rw [ht]; exact hP, va_K.moved hW.alike hK, hD⟩, hS.F ht⟩) hS.2.2 dX3_next_114
        · refine lv_aload_n hx hb dX3_next_79 rfl (lv_at hl 0 rfl) ?_
          refine va_get (D := D) (ci := 3) (v := .ref tp) (C := RX3) (T := TX3) (N := 10) hx hb hts lk1 hown hK hP 0 rfl rfl 7 (by decide) lk3 (fun _ h9 => h9) rfl dX3_next_80 ?_
          refine lv_aload_n hx hb dX3_next_83 rfl (lv_at hl 0 rfl) ?_
          refine va_get (D := D) (ci := 3) (v := .int (nI k)) (C := RX3) (T := TX3) (N := 10) hx hb hts lk1 hown hK hP 0 rfl rfl 9 (by decide) lk2 (fun _ h9 => h9) rfl dX3_next_84 ?_
          refine lv_aload_n hx hb dX3_next_87 rfl (lv_at hl 0 rfl) ?_
          refine lv_iload_n hx hb dX3_next_88 rfl (lv_at hl 1 rfl) ?_
          refine lv_aload_n hx hb dX3_next_89 rfl (lv_at hl 0 rfl) ?_
          refine va_get (D := D) (ci := 3) (v := .int (nI k)) (C := RX3) (T := TX3) (N := 10) hx hb hts lk1 hown hK hP 0 rfl rfl 9 (by decide) lk2 (fun _ h9 => h9) rfl dX3_next_90 ?_
          refine vp_callSi (va_Run.run (va_runV (As := [.int (nI bst), .int (nI k)]) (rest := [.int (nI k), .ref tp]) ⟨hx, hb, hml, hown, hts⟩ (c_X3_signOf l D cI cJ y r0 r1 r2 r3 r4 r5 wd tp wm k wc fw bst k (by omega) (by omega)) (cwV 2 hts gX3_next_X3_signOf rfl rfl rfl (by decide +kernel) ⟨Nat.le_of_ble_eq_true rfl, Nat.le_of_ble_eq_true rfl⟩) (z_preV hK hP [0, 1] rfl 3 0 rfl rfl) rfl rfl hl.1 rfl (lv_room (Nat.le_of_ble_eq_true rfl)) dX3_next_93 ⟨Nat.zero_le _, Nat.zero_le _⟩)) (fun r_2 hr_2 => ?_)
          replace hr_2 := hr_2.symm
          subst hr_2
          refine z_iast hx hb hK hP hD hS 2 rfl (j := k) (by omega) (by omega) dX3_next_96 (fun H locs hP hD hS => ?_)
          have hP : va_P D vwCl [(y, .inr (3, [.ref r0, .ref r1, .ref r2, .ref r3, .ref r4, .ref r5, .ref wd, .ref tp, .int (nI wm), .int (nI k)])), (wd, .inl (cI, wc, .inl fw)), (tp, .inl (cI, 12, .inl (upd ft1 k (wF fw bst k)))), (r5, .inr (2, [.ref a0, .ref b0, .ref v0, .int (nI n)])), (a0, .inl (cI, cap, .inl fa)), (b0, .inl (cI, cap, .inl fb)), (v0, .inl (cJ, cap, .inr (.inl fv)))] H := hP
          have hD : va_D A [(y, .inr (3, [.ref r0, .ref r1, .ref r2, .ref r3, .ref r4, .ref r5, .ref wd, .ref tp, .int (nI wm), .int (nI k)])), (wd, .inl (cI, wc, .inl fw)), (tp, .inl (cI, 12, .inl (upd ft1 k (wF fw bst k)))), (r5, .inr (2, [.ref a0, .ref b0, .ref v0, .int (nI n)])), (a0, .inl (cI, cap, .inl fa)), (b0, .inl (cI, cap, .inl fb)), (v0, .inl (cJ, cap, .inr (.inl fv)))] := hD
          refine lv_aload_n hx hb dX3_next_97 rfl (lv_at hl 0 rfl) ?_
          refine lv_dup hx hb dX3_next_98 rfl ?_
          refine va_get (D := D) (ci := 3) (v := .int (nI k)) (C := RX3) (T := TX3) (N := 10) hx hb hts lk1 hown hK hP 0 rfl rfl 9 (by decide) lk2 (fun _ h9 => h9) rfl dX3_next_99 ?_
          refine lv_iconst (v := nI 1) hx hb dX3_next_102 (by decide) ?_
          refine z_iadd hx hb dX3_next_103 ?_
          refine va_put (D := D) (ci := 3) (v := .int (nI (k + 1))) (ty := .int) (C := RX3) (T := TX3) (N := 10) hx hb hts lk1 tyX3 tyX3_ok nmX3 hown hK hP hD hS 0 rfl rfl 9 (by decide) lk2 (fun _ h9 => h9) rfl (by decide +kernel) rfl rfl (Nat.le_of_ble_eq_true rfl) dX3_next_104 (fun H locs hP hD hS => ?_)
          have hP : va_P D vwCl [(y, .inr (3, [.ref r0, .ref r1, .ref r2, .ref r3, .ref r4, .ref r5, .ref wd, .ref tp, .int (nI wm), .int (nI (k + 1))])), (wd, .inl (cI, wc, .inl fw)), (tp, .inl (cI, 12, .inl (upd ft1 k (wF fw bst k)))), (r5, .inr (2, [.ref a0, .ref b0, .ref v0, .int (nI n)])), (a0, .inl (cI, cap, .inl fa)), (b0, .inl (cI, cap, .inl fb)), (v0, .inl (cJ, cap, .inr (.inl fv)))] H := hP
          have hD : va_D A [(y, .inr (3, [.ref r0, .ref r1, .ref r2, .ref r3, .ref r4, .ref r5, .ref wd, .ref tp, .int (nI wm), .int (nI (k + 1))])), (wd, .inl (cI, wc, .inl fw)), (tp, .inl (cI, 12, .inl (upd ft1 k (wF fw bst k)))), (r5, .inr (2, [.ref a0, .ref b0, .ref v0, .int (nI n)])), (a0, .inl (cI, cap, .inl fa)), (b0, .inl (cI, cap, .inl fb)), (v0, .inl (cJ, cap, .inr (.inl fv)))] := hD
          refine lv_goto (tgt := 54) hx hb dX3_next_107 (by decide) ?_
          exact ih ((k + 1, upd ft1 k (wF fw bst k))) _ _ _ ⟨hP, hD, hS, lv_sub hl [0, 1] rfl, by omega, lt_s1 (fun j hj => by rw [upd_lo hj]; exact h1 j hj) ⟨pk_us, c_76⟩⟩ (by first | omega | (dsimp only; omega))
  · refine lv_aload_n hx hb dX3_next_12 rfl (lv_at hl 0 rfl) ?_
    refine lv_iload_n hx hb dX3_next_13 rfl (lv_at hl 2 rfl) ?_
    refine vp_callSi (va_Run.run (va_runV (As := [.int (nI i)]) (rest := []) ⟨hx, hb, hml, hown, hts⟩ (c_X3_numbers l D cI cJ y r0 r1 r2 r3 r4 r5 wd tp wm tm a0 b0 v0 cap n fa fb fv  (by omega) (by omega) (by omega) i (by omega)) (cwV 1 hts gX3_next_X3_numbers rfl rfl rfl (by decide +kernel) ⟨Nat.le_of_ble_eq_true rfl, Nat.le_of_ble_eq_true rfl⟩) (z_preV hK hP [0, 3, 4, 5, 6] rfl 3 0 rfl rfl) rfl rfl hl.1 rfl (lv_room (Nat.le_of_ble_eq_true rfl)) dX3_next_14 ⟨Nat.zero_le _, Nat.zero_le _⟩)) (fun r_3 hr_3 => ?_)
    replace hr_3 := hr_3.symm
    subst hr_3
    have hnl : nmF n fa i ≤ n := cntF_le _ _
    refine z_if_le (tgt := 43) hx hb dX3_next_17 (by decide) (by omega) (fun c_17 => ?_) (fun c_17 => ?_)
    · refine lv_iinc (v := nI (i + 1)) (lv' := [(2, .int (nI (i + 1))), (0, .ref y), (1, .int (oI o))]) hx hb dX3_next_43 hl (k := 2) rfl (nI_add i 1) (by decide) rfl (fun ls hl => ?_)
      refine lv_goto (tgt := 4) hx hb dX3_next_46 (by decide) ?_
      exact ih ((i + 1, o)) _ _ _ ⟨hP, hD, hS, lv_sub hl [1, 2, 0] rfl, by omega, hns.skip (fun q => absurd q.1 (by omega))⟩ (by first | omega | (dsimp only; omega))
    · refine lv_aload_n hx hb dX3_next_20 rfl (lv_at hl 0 rfl) ?_
      refine lv_iload_n hx hb dX3_next_21 rfl (lv_at hl 2 rfl) ?_
      refine vp_callSi (va_Run.run (va_runV (As := [.int (nI i)]) (rest := []) ⟨hx, hb, hml, hown, hts⟩ (c_X3_against l D cI cJ y r0 r1 r2 r3 r4 r5 wd tp wm tm wc fw ft i (by omega) (by omega) (by omega)) (cwV 1 hts gX3_next_X3_against rfl rfl rfl (by decide +kernel) ⟨Nat.le_of_ble_eq_true rfl, Nat.le_of_ble_eq_true rfl⟩) (z_preV hK hP [0, 1, 2] rfl 3 0 rfl rfl) rfl rfl hl.1 rfl (lv_room (Nat.le_of_ble_eq_true rfl)) dX3_next_22 ⟨Nat.zero_le _, Nat.zero_le _⟩)) (fun r_4 hr_4 => ?_)
      rcases hr_4 with ⟨hag, rfl⟩ | ⟨hag, rfl⟩ | ⟨hag, rfl⟩
      · refine lv_if_le (tgt := 43) hx hb dX3_next_25 (by decide) (fun _ => ?_) (fun q => absurd (by decide) q)
        refine lv_iinc (v := nI (i + 1)) (lv' := [(2, .int (nI (i + 1))), (0, .ref y), (1, .int (oI o))]) hx hb dX3_next_43 hl (k := 2) rfl (nI_add i 1) (by decide) rfl (fun ls hl => ?_)
        refine lv_goto (tgt := 4) hx hb dX3_next_46 (by decide) ?_
        exact ih ((i + 1, o)) _ _ _ ⟨hP, hD, hS, lv_sub hl [1, 2, 0] rfl, by omega, hns.skip (fun q => absurd q.2 (by omega))⟩ (by first | omega | (dsimp only; omega))
      · refine lv_if_le (tgt := 43) hx hb dX3_next_25 (by decide) (fun q => absurd q (by decide)) (fun _ => ?_)
        have hok : (fun w => 0 < nmF n fa w ∧ vW (tS tm ft) < vW (wF fw w)) i := ⟨c_17, hag⟩
        rcases o with _ | bst
        · have hl : lv_has ls 3 [(0, .ref y), (1, .int (-1)), (2, .int (nI i))] := hl
          refine lv_iload_n hx hb dX3_next_28 rfl (lv_at hl 1 rfl) ?_
          refine lv_if_lt (tgt := 41) hx hb dX3_next_29 (by decide) (fun _ => ?_) (fun q => absurd (by decide) q)
          refine lv_iload_n hx hb dX3_next_41 rfl (lv_at hl 2 rfl) ?_
          refine lv_istore_n (lv' := [(1, .int (nI i)), (0, .ref y), (2, .int (nI i))]) hx hb dX3_next_42 rfl hl (by decide) rfl (fun ls hl => ?_)
          refine lv_iinc (v := nI (i + 1)) (lv' := [(2, .int (nI (i + 1))), (1, .int (nI i)), (0, .ref y)]) hx hb dX3_next_43 hl (k := 2) rfl (nI_add i 1) (by decide) rfl (fun ls hl => ?_)
          refine lv_goto (tgt := 4) hx hb dX3_next_46 (by decide) ?_
          exact ih ((i + 1, some i)) _ _ _ ⟨hP, hD, hS, lv_sub hl [2, 1, 0] rfl, by omega, hns.first hok⟩ (by first | omega | (dsimp only; omega))
        · have hl : lv_has ls 3 [(0, .ref y), (1, .int (nI bst)), (2, .int (nI i))] := hl
          have hbl : bst < i := hns.1
          refine lv_iload_n hx hb dX3_next_28 rfl (lv_at hl 1 rfl) ?_
          refine z_if_lt (tgt := 41) hx hb dX3_next_29 (by decide) (by omega) ?_
          refine lv_aload_n hx hb dX3_next_32 rfl (lv_at hl 0 rfl) ?_
          refine lv_iload_n hx hb dX3_next_33 rfl (lv_at hl 2 rfl) ?_
          refine lv_iload_n hx hb dX3_next_34 rfl (lv_at hl 1 rfl) ?_
          refine vp_callSi (va_Run.run (va_runV (As := [.int (nI i), .int (nI bst)]) (rest := []) ⟨hx, hb, hml, hown, hts⟩ (c_X3_before l D cI cJ y r0 r1 r2 r3 r4 r5 wd tp wm tm wc fw i bst (by omega) (by omega) (by omega)) (cwV 2 hts gX3_next_X3_before rfl rfl rfl (by decide +kernel) ⟨Nat.le_of_ble_eq_true rfl, Nat.le_of_ble_eq_true rfl⟩) (z_preV hK hP [0, 1] rfl 3 0 rfl rfl) rfl rfl hl.1 rfl (lv_room (Nat.le_of_ble_eq_true rfl)) dX3_next_35 ⟨Nat.zero_le _, Nat.zero_le _⟩)) (fun r_5 hr_5 => ?_)
          rcases hr_5 with ⟨hbf, rfl⟩ | ⟨hbf, rfl⟩
          · refine lv_if_eq (tgt := 43) hx hb dX3_next_38 (by decide) (fun q => absurd q (by decide)) (fun _ => ?_)
            refine lv_iload_n hx hb dX3_next_41 rfl (lv_at hl 2 rfl) ?_
            refine lv_istore_n (lv' := [(1, .int (nI i)), (0, .ref y), (2, .int (nI i))]) hx hb dX3_next_42 rfl hl (by decide) rfl (fun ls hl => ?_)
            refine lv_iinc (v := nI (i + 1)) (lv' := [(2, .int (nI (i + 1))), (1, .int (nI i)), (0, .ref y)]) hx hb dX3_next_43 hl (k := 2) rfl (nI_add i 1) (by decide) rfl (fun ls hl => ?_)
            refine lv_goto (tgt := 4) hx hb dX3_next_46 (by decide) ?_
            exact ih ((i + 1, some i)) _ _ _ ⟨hP, hD, hS, lv_sub hl [2, 1, 0] rfl, by omega, hns.take hok hbf⟩ (by first | omega | (dsimp only; omega))
          · refine lv_if_eq (tgt := 43) hx hb dX3_next_38 (by decide) (fun _ => ?_) (fun q => absurd (by decide) q)
            refine lv_iinc (v := nI (i + 1)) (lv' := [(2, .int (nI (i + 1))), (0, .ref y), (1, .int (nI bst))]) hx hb dX3_next_43 hl (k := 2) rfl (nI_add i 1) (by decide) rfl (fun ls hl => ?_)
            refine lv_goto (tgt := 4) hx hb dX3_next_46 (by decide) ?_
            exact ih ((i + 1, some bst)) _ _ _ ⟨hP, hD, hS, lv_sub hl [1, 2, 0] rfl, by omega, hns.stay hbf⟩ (by first | omega | (dsimp only; omega))
      · refine lv_if_le (tgt := 43) hx hb dX3_next_25 (by decide) (fun _ => ?_) (fun q => absurd (by decide) q)
        refine lv_iinc (v := nI (i + 1)) (lv' := [(2, .int (nI (i + 1))), (0, .ref y), (1, .int (oI o))]) hx hb dX3_next_43 hl (k := 2) rfl (nI_add i 1) (by decide) rfl (fun ls hl => ?_)
        refine lv_goto (tgt := 4) hx hb dX3_next_46 (by decide) ?_
        exact ih ((i + 1, o)) _ _ _ ⟨hP, hD, hS, lv_sub hl [1, 2, 0] rfl, by omega, hns.skip (fun q => absurd q.2 (by omega))⟩ (by first | omega | (dsimp only; omega))

set_option maxHeartbeats 4000000 in
set_option maxRecDepth 100000 in
theorem c_X3_line (l : Launch) (D : va_G) (cI cJ : ClassId) (y r0 r1 r2 r3 r4 r5 wd tp wm tm : Nat) (wc : Nat) (fw : Nat → Int32) (hwc : 12 * wm ≤ wc) (hwc2 : wc ≤ 1176) (ft : Nat → Int32) (htm : tm ≤ 12) (a0 b0 v0 cap n : Nat) (fa fb : Nat → Int32) (fv : Nat → Int64) (hn : n ≤ cap) (hc : cap ≤ 1100) (h16 : 16 ≤ cap) (hn5 : n ≤ 549) (hwm : wm ≤ 47) (hwc0 : 192 ≤ wc) (z : Int32) (sz : Nat) : Met l yX3_line wsX3_line { frames := 3, cells := 4, slots := 7776, locals := 65 } (va_Pc [.ref y, .int z] (wP D cI cJ [(y, .inr (3, [.ref r0, .ref r1, .ref r2, .ref r3, .ref r4, .ref r5, .ref wd, .ref tp, .int (nI wm), .int (nI tm)])), (wd, .inl (cI, wc, .inl fw)), (tp, .inl (cI, 12, .inl ft)), (r5, .inr (2, [.ref a0, .ref b0, .ref v0, .int (nI n)])), (a0, .inl (cI, cap, .inl fa)), (b0, .inl (cI, cap, .inl fb)), (v0, .inl (cJ, cap, .inr (.inl fv)))] sz)) (va_Qi (fun r (u : Nat × Nat × (Nat → Int32) × Nat × Nat × Nat × Nat × Nat × Nat × (Nat → Int32) × (Nat → Int32) × (Nat → Int64)) => match u with | (wd', wc', fw', wm', a', b', v', cap', n', fa', fb', fv') => ROK n' cap' ∧ 12 * wm' ≤ wc' ∧ 192 ≤ wc' ∧ wc' ≤ 1176 ∧ ((tm = 0 ∧ r = (-1) ∧ wm' = wm ∧ fw' = fw ∧ (rl n' fa' fb' fv') = (rl n fa fb fv)) ∨ (tm ≠ 0 ∧ ∃ w, ((w < wm ∧ wm' = wm) ∨ ((∀ w, w < wm → vW (wF fw w) ≠ vW (tS tm ft)) ∧ w = wm ∧ wm' = wm + 1)) ∧ (∀ i, i < 12 * wm → fw' i = fw i) ∧ vW (wF fw' w) = vW (tS tm ft) ∧ (rl n' fa' fb' fv') = (rl n fa fb fv) ++ [(nI w, 0, z.toInt64)] ∧ n' = n + 1 ∧ r = nI (nmF n' fa' w)))) (wB D cI cJ (va_A [(y, .inr (3, [.ref r0, .ref r1, .ref r2, .ref r3, .ref r4, .ref r5, .ref wd, .ref tp, .int (nI wm), .int (nI tm)])), (wd, .inl (cI, wc, .inl fw)), (tp, .inl (cI, 12, .inl ft)), (r5, .inr (2, [.ref a0, .ref b0, .ref v0, .int (nI n)])), (a0, .inl (cI, cap, .inl fa)), (b0, .inl (cI, cap, .inl fb)), (v0, .inl (cJ, cap, .inr (.inl fv)))] sz) (fun (wd', wc', fw', wm', a', b', v', cap', n', fa', fb', fv') => [(y, .inr (3, [.ref r0, .ref r1, .ref r2, .ref r3, .ref r4, .ref r5, .ref wd', .ref tp, .int (nI wm'), .int (nI 0)])), (wd', .inl (cI, wc', .inl fw')), (tp, .inl (cI, 12, .inl ft)), (r5, .inr (2, [.ref a', .ref b', .ref v', .int (nI n')])), (a', .inl (cI, cap', .inl fa')), (b', .inl (cI, cap', .inl fb')), (v', .inl (cJ, cap', .inr (.inl fv')))])) (va_A [(y, .inr (3, [.ref r0, .ref r1, .ref r2, .ref r3, .ref r4, .ref r5, .ref wd, .ref tp, .int (nI wm), .int (nI tm)])), (wd, .inl (cI, wc, .inl fw)), (tp, .inl (cI, 12, .inl ft)), (r5, .inr (2, [.ref a0, .ref b0, .ref v0, .int (nI n)])), (a0, .inl (cI, cap, .inl fa)), (b0, .inl (cI, cap, .inl fb)), (v0, .inl (cJ, cap, .inr (.inl fv)))] sz)) 4 7776 (va_A [(y, .inr (3, [.ref r0, .ref r1, .ref r2, .ref r3, .ref r4, .ref r5, .ref wd, .ref tp, .int (nI wm), .int (nI tm)])), (wd, .inl (cI, wc, .inl fw)), (tp, .inl (cI, 12, .inl ft)), (r5, .inr (2, [.ref a0, .ref b0, .ref v0, .int (nI n)])), (a0, .inl (cI, cap, .inl fa)), (b0, .inl (cI, cap, .inl fb)), (v0, .inl (cJ, cap, .inr (.inl fv)))] sz) := by
  refine Met.ofW (cc := cX3_line) (maxL := 5) (ret := (some .int)) (by decide) rfl ?_
  intro p e s m args below meth c s₁ B hml hv
  obtain ⟨rfl, hsz, hP, hK, hD0⟩ := hv
  have hx := B.exec
  have hb := B.bytes
  have hr := B.returns
  have hts := atoms_spec (ws := wsX3_line) B.pre
  have hown : s.vm.findClass RX3 = some m.cls := findClass_of_methodNamed B.named
  have hlocks := B.notSynchronized
  have lk0 := hts (.fieldLink RX3 82 "KeyHallModel" "tapeMany" "I") (by decide +kernel)
  have lk1 : ∀ w ∈ wsX30, w ∈ wsX3_line := by decide +kernel
  have lk2 := hts (.fieldLink RX3 28 "KeyHallModel" "lines" "LKeyHallModel$Rows;") (by decide +kernel)
  have lk3 := hts (.fieldLink RX3 92 "KeyHallModel" "wordMany" "I") (by decide +kernel)
  have lk4 := hts (.fieldLink RX3 31 "KeyHallModel" "words" "[I") (by decide +kernel)
  have lk5 := hts (.arrayClass .int) (by decide +kernel)
  subst hsz
  have hD := hD0.self (sz := s.heap.size)
  generalize hAe : va_A [(y, .inr (3, [.ref r0, .ref r1, .ref r2, .ref r3, .ref r4, .ref r5, .ref wd, .ref tp, .int (nI wm), .int (nI tm)])), (wd, .inl (cI, wc, .inl fw)), (tp, .inl (cI, 12, .inl ft)), (r5, .inr (2, [.ref a0, .ref b0, .ref v0, .int (nI n)])), (a0, .inl (cI, cap, .inl fa)), (b0, .inl (cI, cap, .inl fb)), (v0, .inl (cJ, cap, .inr (.inl fv)))] s.heap.size = A at hD ⊢
  have hA : ∀ q : Nat, s.heap.size ≤ q → A q := fun q h => by rw [← hAe]; exact Or.inr h
  have hS : va_S A s.heap s.heap [] := va_S.rf
  have hP : va_P D vwCl [(y, .inr (3, [.ref r0, .ref r1, .ref r2, .ref r3, .ref r4, .ref r5, .ref wd, .ref tp, .int (nI wm), .int (nI tm)])), (wd, .inl (cI, wc, .inl fw)), (tp, .inl (cI, 12, .inl ft)), (r5, .inr (2, [.ref a0, .ref b0, .ref v0, .int (nI n)])), (a0, .inl (cI, cap, .inl fa)), (b0, .inl (cI, cap, .inl fb)), (v0, .inl (cJ, cap, .inr (.inl fv)))] s.heap := hP
  have hl := lv_entry ([.ref y, .int z]) (n := 5) (Nat.le_of_ble_eq_true rfl)
  rw [lg_entry_eq]
  generalize (lg_sl ([.ref y, .int z]) ++ List.replicate (5 - (lg_sl ([.ref y, .int z])).length) Slot.unset).toArray = ls at hl ⊢
  have hl : lv_has ls 5 [(0, .ref y), (1, .int z)] := hl
  refine lv_aload_n hx hb dX3_line_0 rfl (lv_at hl 0 rfl) ?_
  refine va_get (D := D) (ci := 3) (v := .int (nI tm)) (C := RX3) (T := TX3) (N := 10) hx hb hts lk1 hown hK hP 0 rfl rfl 9 (by decide) lk0 (fun _ h9 => h9) rfl dX3_line_1 ?_
  refine z_if_ne (tgt := 9) hx hb dX3_line_4 (by decide) (by omega) (fun c_4 => ?_) (fun c_4 => ?_)
  · refine lv_aload_n hx hb dX3_line_9 rfl (lv_at hl 0 rfl) ?_
    refine vp_callSi (va_Run.run (va_runV (As := []) (rest := []) ⟨hx, hb, hml, hown, hts⟩ (c_X3_wordOfTape l D cI cJ y r0 r1 r2 r3 r4 r5 wd tp wm tm wc fw ft (by omega) (by omega) (by omega)) (cwV 0 hts gX3_line_X3_wordOfTape rfl rfl rfl (by decide +kernel) ⟨Nat.le_of_ble_eq_true rfl, Nat.le_of_ble_eq_true rfl⟩) (z_preV hK hP [0, 1, 2] rfl 3 0 rfl rfl) rfl rfl hl.1 rfl (lv_room (Nat.le_of_ble_eq_true rfl)) dX3_line_10 ⟨by show _ ≤ 4; omega, by show _ ≤ 7776; omega⟩)) (fun r_1 hr_1 => ?_)
    rcases hr_1 with ⟨wi, hwi, hwe, rfl⟩ | ⟨hwn, rfl⟩
    · refine lv_istore_n (lv' := [(2, .int (nI wi)), (0, .ref y), (1, .int z)]) hx hb dX3_line_13 rfl hl (by decide) rfl (fun ls hl => ?_)
      refine lv_iload_n hx hb dX3_line_14 rfl (lv_at hl 0 rfl) ?_
      refine z_if_ge (tgt := 122) hx hb dX3_line_15 (by decide) (by omega) ?_
      refine lv_aload_n hx hb dX3_line_122 rfl (lv_at hl 1 rfl) ?_
      refine va_get (D := D) (ci := 3) (v := .ref r5) (C := RX3) (T := TX3) (N := 10) hx hb hts lk1 hown hK hP 0 rfl rfl 5 (by decide) lk2 (fun _ h9 => h9) rfl dX3_line_123 ?_
      refine lv_iload_n hx hb dX3_line_126 rfl (lv_at hl 0 rfl) ?_
      refine lv_iconst (v := nI 0) hx hb dX3_line_127 (by decide) ?_
      refine lv_iload_n hx hb dX3_line_128 rfl (lv_at hl 2 rfl) ?_
      refine lv_i2l (v := z.toInt64) hx hb dX3_line_129 rfl ?_
      have hFc := va_free (wc := [(r5, .inr (2, [.ref a0, .ref b0, .ref v0, .int (nI n)])), (a0, .inl (cI, cap, .inl fa)), (b0, .inl (cI, cap, .inl fb)), (v0, .inl (cJ, cap, .inr (.inl fv)))]) hD hS hA [3, 4, 5, 6] rfl
      refine va_callv (va_runV (As := [.int (nI wi), .int (nI 0), .long z.toInt64]) (rest := []) ⟨hx, hb, hml, hown, hts⟩ (c_X2_add l D cI cJ r5 a0 b0 v0 cap n fa fb fv (nI wi) (nI 0) z.toInt64  (by omega) (by omega) (by omega) 3 6600 (fun _ => ⟨by omega, by omega⟩) s.heap.size) (cwV 3 hts gX3_line_X2_add rfl rfl rfl (by decide +kernel) ⟨Nat.le_of_ble_eq_true rfl, Nat.le_of_ble_eq_true rfl⟩) (z_preVw hK hP hD [3, 4, 5, 6] (by decide) rfl rfl 2 3 rfl rfl) rfl rfl hl.1 rfl (lv_room (Nat.le_of_ble_eq_true rfl)) dX3_line_130 ⟨by show _ ≤ 4; omega, by show _ ≤ 7776; omega⟩) hS (fun q _ h => hFc q h) hFc (fun u_3 t H1 locs ht hvm hr_2 hB hzz1 hkk1 hS => ?_)
      obtain ⟨a4, b4, v4, cap4, fa4, fb4, fv4⟩ := u_3
      obtain ⟨hP1, hK1, hD1⟩ := hB
      rw [ht] at hP1
      try dsimp only at hr_2
      obtain ⟨hP, hD⟩ := va_join (wr := [(y, .inr (3, [.ref r0, .ref r1, .ref r2, .ref r3, .ref r4, .ref r5, .ref wd, .ref tp, .int (nI wm), .int (nI tm)])), (wd, .inl (cI, wc, .inl fw)), (tp, .inl (cI, 12, .inl ft))]) (w1 := [(r5, .inr (2, [.ref a4, .ref b4, .ref v4, .int (nI (n + 1))])), (a4, .inl (cI, cap4, .inl fa4)), (b4, .inl (cI, cap4, .inl fb4)), (v4, .inl (cJ, cap4, .inr (.inl fv4)))]) hP hD [3, 4, 5, 6] [0, 1, 2] rfl rfl (by decide) (by decide) hkk1 hFc hP1 hD1
      generalize H1 = H at hP hS ⊢
      have hP : va_P D vwCl [(y, .inr (3, [.ref r0, .ref r1, .ref r2, .ref r3, .ref r4, .ref r5, .ref wd, .ref tp, .int (nI wm), .int (nI tm)])), (wd, .inl (cI, wc, .inl fw)), (tp, .inl (cI, 12, .inl ft)), (r5, .inr (2, [.ref a4, .ref b4, .ref v4, .int (nI (n + 1))])), (a4, .inl (cI, cap4, .inl fa4)), (b4, .inl (cI, cap4, .inl fb4)), (v4, .inl (cJ, cap4, .inr (.inl fv4)))] H := hP.sub [0, 1, 2, 3, 4, 5, 6] rfl
      have hD : va_D A [(y, .inr (3, [.ref r0, .ref r1, .ref r2, .ref r3, .ref r4, .ref r5, .ref wd, .ref tp, .int (nI wm), .int (nI tm)])), (wd, .inl (cI, wc, .inl fw)), (tp, .inl (cI, 12, .inl ft)), (r5, .inr (2, [.ref a4, .ref b4, .ref v4, .int (nI (n + 1))])), (a4, .inl (cI, cap4, .inl fa4)), (b4, .inl (cI, cap4, .inl fb4)), (v4, .inl (cJ, cap4, .inr (.inl fv4)))] := hD.sub [0, 1, 2, 3, 4, 5, 6] (by decide) rfl
      obtain ⟨had, hca, hcb, hcc, hcd⟩ := hr_2
      refine lv_aload_n hx hb dX3_line_133 rfl (lv_at hl 1 rfl) ?_
      refine lv_iconst (v := nI 0) hx hb dX3_line_134 (by decide) ?_
      refine va_put (D := D) (ci := 3) (v := .int (nI 0)) (ty := .int) (C := RX3) (T := TX3) (N := 10) hx hb hts lk1 tyX3 tyX3_ok nmX3 hown hK hP hD hS 0 rfl rfl 9 (by decide) lk0 (fun _ h9 => h9) rfl (by decide +kernel) rfl rfl (Nat.le_of_ble_eq_true rfl) dX3_line_135 (fun H locs hP hD hS => ?_)
      have hP : va_P D vwCl [(y, .inr (3, [.ref r0, .ref r1, .ref r2, .ref r3, .ref r4, .ref r5, .ref wd, .ref tp, .int (nI wm), .int (nI 0)])), (wd, .inl (cI, wc, .inl fw)), (tp, .inl (cI, 12, .inl ft)), (r5, .inr (2, [.ref a4, .ref b4, .ref v4, .int (nI (n + 1))])), (a4, .inl (cI, cap4, .inl fa4)), (b4, .inl (cI, cap4, .inl fb4)), (v4, .inl (cJ, cap4, .inr (.inl fv4)))] H := hP
      have hD : va_D A [(y, .inr (3, [.ref r0, .ref r1, .ref r2, .ref r3, .ref r4, .ref r5, .ref wd, .ref tp, .int (nI wm), .int (nI 0)])), (wd, .inl (cI, wc, .inl fw)), (tp, .inl (cI, 12, .inl ft)), (r5, .inr (2, [.ref a4, .ref b4, .ref v4, .int (nI (n + 1))])), (a4, .inl (cI, cap4, .inl fa4)), (b4, .inl (cI, cap4, .inl fb4)), (v4, .inl (cJ, cap4, .inr (.inl fv4)))] := hD
      refine lv_aload_n hx hb dX3_line_138 rfl (lv_at hl 1 rfl) ?_
      refine lv_iload_n hx hb dX3_line_139 rfl (lv_at hl 0 rfl) ?_
      refine vp_callSi (va_Run.run (va_runV (As := [.int (nI wi)]) (rest := []) ⟨hx, hb, hml, hown, hts⟩ (c_X3_numbers l D cI cJ y r0 r1 r2 r3 r4 r5 wd tp wm 0 a4 b4 v4 cap4 (n + 1) fa4 fb4 fv4  (by omega) (by omega) (by omega) wi (by omega)) (cwV 1 hts gX3_line_X3_numbers rfl rfl rfl (by decide +kernel) ⟨Nat.le_of_ble_eq_true rfl, Nat.le_of_ble_eq_true rfl⟩) (z_preV hK hP [0, 3, 4, 5, 6] rfl 3 0 rfl rfl) rfl rfl hl.1 rfl (lv_room (Nat.le_of_ble_eq_true rfl)) dX3_line_140 ⟨by show _ ≤ 4; omega, by show _ ≤ 7776; omega⟩)) (fun r_5 hr_5 => ?_)
      replace hr_5 := hr_5.symm
      subst hr_5
      have hnl : nmF (n + 1) fa4 wi ≤ n + 1 := cntF_le _ _
      refine W.widen (k := 4) (n := 7776) (by omega) (by omega) ?_
      exact W.iret (v := nI (nmF (n + 1) fa4 wi)) hx hb hr (fun t ht hW => ⟨⟨nI (nmF (n + 1) fa4 wi), (wd, wc, fw, wm, a4, b4, v4, cap4, n + 1, fa4, fb4, fv4), rfl, ⟨⟨hca, hcb, by omega⟩, hwc, hwc0, hwc2, Or.inr ⟨by omega, wi, Or.inl ⟨hwi, rfl⟩, fun _ _ => rfl, hwe, had, rfl, rfl⟩⟩, by rw [ht]; exact (hP.sub [0, 1, 2, 3, 4, 5, 6] rfl), va_K.moved hW.alike hK, (hD.sub [0, 1, 2, 3, 4, 5, 6] (by decide) rfl)⟩, hS.F ht⟩) hS.2.2 dX3_line_143
    · refine lv_istore_n (lv' := [(2, .int (-1)), (0, .ref y), (1, .int z)]) hx hb dX3_line_13 rfl hl (by decide) rfl (fun ls hl => ?_)
      refine lv_iload_n hx hb dX3_line_14 rfl (lv_at hl 0 rfl) ?_
      refine lv_if_ge (tgt := 122) hx hb dX3_line_15 (by decide) (fun q => absurd q (by decide)) (fun _ => ?_)
      refine lv_bipush (v := nI 12) hx hb dX3_line_18 (by decide) ?_
      refine lv_aload_n hx hb dX3_line_20 rfl (lv_at hl 1 rfl) ?_
      refine va_get (D := D) (ci := 3) (v := .int (nI wm)) (C := RX3) (T := TX3) (N := 10) hx hb hts lk1 hown hK hP 0 rfl rfl 8 (by decide) lk3 (fun _ h9 => h9) rfl dX3_line_21 ?_
      refine lv_iconst (v := nI 1) hx hb dX3_line_24 (by decide) ?_
      refine z_iadd hx hb dX3_line_25 ?_
      refine z_imul hx hb dX3_line_26 ?_
      refine lv_aload_n hx hb dX3_line_27 rfl (lv_at hl 1 rfl) ?_
      refine va_get (D := D) (ci := 3) (v := .ref wd) (C := RX3) (T := TX3) (N := 10) hx hb hts lk1 hown hK hP 0 rfl rfl 6 (by decide) lk4 (fun _ h9 => h9) rfl dX3_line_28 ?_
      refine va_alen (v := nI wc) hx hb hK hP 1 0 rfl rfl rfl dX3_line_31 ?_
      refine z_icmp_le (tgt := 80) hx hb dX3_line_32 (by decide) (by omega) (by omega) (fun c_32 => ?_) (fun c_32 => ?_)
      · refine lv_aload_n hx hb dX3_line_80 rfl (lv_at hl 1 rfl) ?_
        refine lv_dup hx hb dX3_line_81 rfl ?_
        refine va_get (D := D) (ci := 3) (v := .int (nI wm)) (C := RX3) (T := TX3) (N := 10) hx hb hts lk1 hown hK hP 0 rfl rfl 8 (by decide) lk3 (fun _ h9 => h9) rfl dX3_line_82 ?_
        refine lv_dup_x1 hx hb dX3_line_85 rfl rfl ?_
        refine lv_iconst (v := nI 1) hx hb dX3_line_86 (by decide) ?_
        refine z_iadd hx hb dX3_line_87 ?_
        refine va_put (D := D) (ci := 3) (v := .int (nI (wm + 1))) (ty := .int) (C := RX3) (T := TX3) (N := 10) hx hb hts lk1 tyX3 tyX3_ok nmX3 hown hK hP hD hS 0 rfl rfl 8 (by decide) lk3 (fun _ h9 => h9) rfl (by decide +kernel) rfl rfl (Nat.le_of_ble_eq_true rfl) dX3_line_88 (fun H locs hP hD hS => ?_)
        have hP : va_P D vwCl [(y, .inr (3, [.ref r0, .ref r1, .ref r2, .ref r3, .ref r4, .ref r5, .ref wd, .ref tp, .int (nI (wm + 1)), .int (nI tm)])), (wd, .inl (cI, wc, .inl fw)), (tp, .inl (cI, 12, .inl ft)), (r5, .inr (2, [.ref a0, .ref b0, .ref v0, .int (nI n)])), (a0, .inl (cI, cap, .inl fa)), (b0, .inl (cI, cap, .inl fb)), (v0, .inl (cJ, cap, .inr (.inl fv)))] H := hP
        have hD : va_D A [(y, .inr (3, [.ref r0, .ref r1, .ref r2, .ref r3, .ref r4, .ref r5, .ref wd, .ref tp, .int (nI (wm + 1)), .int (nI tm)])), (wd, .inl (cI, wc, .inl fw)), (tp, .inl (cI, 12, .inl ft)), (r5, .inr (2, [.ref a0, .ref b0, .ref v0, .int (nI n)])), (a0, .inl (cI, cap, .inl fa)), (b0, .inl (cI, cap, .inl fb)), (v0, .inl (cJ, cap, .inr (.inl fv)))] := hD
        refine lv_istore_n (lv' := [(2, .int (nI wm)), (0, .ref y), (1, .int z)]) hx hb dX3_line_91 rfl hl (by decide) rfl (fun ls hl => ?_)
        refine lv_iconst (v := nI 0) hx hb dX3_line_92 (by decide) ?_
        refine lv_istore_n (lv' := [(3, .int (nI 0)), (2, .int (nI wm)), (0, .ref y), (1, .int z)]) hx hb dX3_line_93 rfl hl (by decide) rfl (fun ls hl => ?_)
        refine z_loopw (σ := Nat × (Nat → Int32)) (fun (k, f1) => 12 - k) (fun (k, f1) H locs ls => va_P D vwCl [(y, .inr (3, [.ref r0, .ref r1, .ref r2, .ref r3, .ref r4, .ref r5, .ref wd, .ref tp, .int (nI (wm + 1)), .int (nI tm)])), (wd, .inl (cI, wc, .inl f1)), (tp, .inl (cI, 12, .inl ft)), (r5, .inr (2, [.ref a0, .ref b0, .ref v0, .int (nI n)])), (a0, .inl (cI, cap, .inl fa)), (b0, .inl (cI, cap, .inl fb)), (v0, .inl (cJ, cap, .inr (.inl fv)))] H ∧ va_D A [(y, .inr (3, [.ref r0, .ref r1, .ref r2, .ref r3, .ref r4, .ref r5, .ref wd, .ref tp, .int (nI (wm + 1)), .int (nI tm)])), (wd, .inl (cI, wc, .inl f1)), (tp, .inl (cI, 12, .inl ft)), (r5, .inr (2, [.ref a0, .ref b0, .ref v0, .int (nI n)])), (a0, .inl (cI, cap, .inl fa)), (b0, .inl (cI, cap, .inl fb)), (v0, .inl (cJ, cap, .inr (.inl fv)))] ∧ va_S A s.heap H locs ∧ lv_has ls 5 [(0, .ref y), (1, .int z), (2, .int (nI wm)), (3, .int (nI k))] ∧ (k ≤ 12) ∧ (∀ j, j < 12 * wm → f1 j = fw j) ∧ (∀ j, j < k → wF f1 wm j = tS tm ft j)) ?_ ((0, fw)) _ _ _ ⟨hP, hD, hS, lv_sub hl [2, 3, 1, 0] rfl, by decide, fun j _ => rfl, fun j h => absurd h (Nat.not_lt_zero j)⟩
        rintro ⟨k, f1⟩ H locs ls ⟨hP, hD, hS, hl, hk, h2, h3⟩ ih
        have hP : va_P D vwCl [(y, .inr (3, [.ref r0, .ref r1, .ref r2, .ref r3, .ref r4, .ref r5, .ref wd, .ref tp, .int (nI (wm + 1)), .int (nI tm)])), (wd, .inl (cI, wc, .inl f1)), (tp, .inl (cI, 12, .inl ft)), (r5, .inr (2, [.ref a0, .ref b0, .ref v0, .int (nI n)])), (a0, .inl (cI, cap, .inl fa)), (b0, .inl (cI, cap, .inl fb)), (v0, .inl (cJ, cap, .inr (.inl fv)))] H := hP
        have hl : lv_has ls 5 [(0, .ref y), (1, .int z), (2, .int (nI wm)), (3, .int (nI k))] := hl
        refine lv_iload_n hx hb dX3_line_94 rfl (lv_at hl 3 rfl) ?_
        refine lv_bipush (v := nI 12) hx hb dX3_line_95 (by decide) ?_
        refine z_icmp_ge (tgt := 122) hx hb dX3_line_97 (by decide) (by omega) (by omega) (fun c_97 => ?_) (fun c_97 => ?_)
        · refine lv_aload_n hx hb dX3_line_122 rfl (lv_at hl 0 rfl) ?_
          refine va_get (D := D) (ci := 3) (v := .ref r5) (C := RX3) (T := TX3) (N := 10) hx hb hts lk1 hown hK hP 0 rfl rfl 5 (by decide) lk2 (fun _ h9 => h9) rfl dX3_line_123 ?_
          refine lv_iload_n hx hb dX3_line_126 rfl (lv_at hl 2 rfl) ?_
          refine lv_iconst (v := nI 0) hx hb dX3_line_127 (by decide) ?_
          refine lv_iload_n hx hb dX3_line_128 rfl (lv_at hl 1 rfl) ?_
          refine lv_i2l (v := z.toInt64) hx hb dX3_line_129 rfl ?_
          have hFc := va_free (wc := [(r5, .inr (2, [.ref a0, .ref b0, .ref v0, .int (nI n)])), (a0, .inl (cI, cap, .inl fa)), (b0, .inl (cI, cap, .inl fb)), (v0, .inl (cJ, cap, .inr (.inl fv)))]) hD hS hA [3, 4, 5, 6] rfl
          refine va_callv (va_runV (As := [.int (nI wm), .int (nI 0), .long z.toInt64]) (rest := []) ⟨hx, hb, hml, hown, hts⟩ (c_X2_add l D cI cJ r5 a0 b0 v0 cap n fa fb fv (nI wm) (nI 0) z.toInt64  (by omega) (by omega) (by omega) 3 6600 (fun _ => ⟨by omega, by omega⟩) H.size) (cwV 3 hts gX3_line_X2_add rfl rfl rfl (by decide +kernel) ⟨Nat.le_of_ble_eq_true rfl, Nat.le_of_ble_eq_true rfl⟩) (z_preVw hK hP hD [3, 4, 5, 6] (by decide) rfl rfl 2 3 rfl rfl) rfl rfl hl.1 rfl (lv_room (Nat.le_of_ble_eq_true rfl)) dX3_line_130 ⟨by show _ ≤ 4; omega, by show _ ≤ 7776; omega⟩) hS (fun q _ h => hFc q h) hFc (fun u_7 t H1 locs ht hvm hr_6 hB hzz1 hkk1 hS => ?_)
          obtain ⟨a8, b8, v8, cap8, fa8, fb8, fv8⟩ := u_7
          obtain ⟨hP1, hK1, hD1⟩ := hB
          rw [ht] at hP1
          try dsimp only at hr_6
          obtain ⟨hP, hD⟩ := va_join (wr := [(y, .inr (3, [.ref r0, .ref r1, .ref r2, .ref r3, .ref r4, .ref r5, .ref wd, .ref tp, .int (nI (wm + 1)), .int (nI tm)])), (wd, .inl (cI, wc, .inl f1)), (tp, .inl (cI, 12, .inl ft))]) (w1 := [(r5, .inr (2, [.ref a8, .ref b8, .ref v8, .int (nI (n + 1))])), (a8, .inl (cI, cap8, .inl fa8)), (b8, .inl (cI, cap8, .inl fb8)), (v8, .inl (cJ, cap8, .inr (.inl fv8)))]) hP hD [3, 4, 5, 6] [0, 1, 2] rfl rfl (by decide) (by decide) hkk1 hFc hP1 hD1
          generalize H1 = H at hP hS ⊢
          have hP : va_P D vwCl [(y, .inr (3, [.ref r0, .ref r1, .ref r2, .ref r3, .ref r4, .ref r5, .ref wd, .ref tp, .int (nI (wm + 1)), .int (nI tm)])), (wd, .inl (cI, wc, .inl f1)), (tp, .inl (cI, 12, .inl ft)), (r5, .inr (2, [.ref a8, .ref b8, .ref v8, .int (nI (n + 1))])), (a8, .inl (cI, cap8, .inl fa8)), (b8, .inl (cI, cap8, .inl fb8)), (v8, .inl (cJ, cap8, .inr (.inl fv8)))] H := hP.sub [0, 1, 2, 3, 4, 5, 6] rfl
          have hD : va_D A [(y, .inr (3, [.ref r0, .ref r1, .ref r2, .ref r3, .ref r4, .ref r5, .ref wd, .ref tp, .int (nI (wm + 1)), .int (nI tm)])), (wd, .inl (cI, wc, .inl f1)), (tp, .inl (cI, 12, .inl ft)), (r5, .inr (2, [.ref a8, .ref b8, .ref v8, .int (nI (n + 1))])), (a8, .inl (cI, cap8, .inl fa8)), (b8, .inl (cI, cap8, .inl fb8)), (v8, .inl (cJ, cap8, .inr (.inl fv8)))] := hD.sub [0, 1, 2, 3, 4, 5, 6] (by decide) rfl
          obtain ⟨had, hca, hcb, hcc, hcd⟩ := hr_6
          refine lv_aload_n hx hb dX3_line_133 rfl (lv_at hl 0 rfl) ?_
          refine lv_iconst (v := nI 0) hx hb dX3_line_134 (by decide) ?_
          refine va_put (D := D) (ci := 3) (v := .int (nI 0)) (ty := .int) (C := RX3) (T := TX3) (N := 10) hx hb hts lk1 tyX3 tyX3_ok nmX3 hown hK hP hD hS 0 rfl rfl 9 (by decide) lk0 (fun _ h9 => h9) rfl (by decide +kernel) rfl rfl (Nat.le_of_ble_eq_true rfl) dX3_line_135 (fun H locs hP hD hS => ?_)
          have hP : va_P D vwCl [(y, .inr (3, [.ref r0, .ref r1, .ref r2, .ref r3, .ref r4, .ref r5, .ref wd, .ref tp, .int (nI (wm + 1)), .int (nI 0)])), (wd, .inl (cI, wc, .inl f1)), (tp, .inl (cI, 12, .inl ft)), (r5, .inr (2, [.ref a8, .ref b8, .ref v8, .int (nI (n + 1))])), (a8, .inl (cI, cap8, .inl fa8)), (b8, .inl (cI, cap8, .inl fb8)), (v8, .inl (cJ, cap8, .inr (.inl fv8)))] H := hP
          have hD : va_D A [(y, .inr (3, [.ref r0, .ref r1, .ref r2, .ref r3, .ref r4, .ref r5, .ref wd, .ref tp, .int (nI (wm + 1)), .int (nI 0)])), (wd, .inl (cI, wc, .inl f1)), (tp, .inl (cI, 12, .inl ft)), (r5, .inr (2, [.ref a8, .ref b8, .ref v8, .int (nI (n + 1))])), (a8, .inl (cI, cap8, .inl fa8)), (b8, .inl (cI, cap8, .inl fb8)), (v8, .inl (cJ, cap8, .inr (.inl fv8)))] := hD
          refine lv_aload_n hx hb dX3_line_138 rfl (lv_at hl 0 rfl) ?_
          refine lv_iload_n hx hb dX3_line_139 rfl (lv_at hl 2 rfl) ?_
          refine vp_callSi (va_Run.run (va_runV (As := [.int (nI wm)]) (rest := []) ⟨hx, hb, hml, hown, hts⟩ (c_X3_numbers l D cI cJ y r0 r1 r2 r3 r4 r5 wd tp (wm + 1) 0 a8 b8 v8 cap8 (n + 1) fa8 fb8 fv8  (by omega) (by omega) (by omega) wm (by omega)) (cwV 1 hts gX3_line_X3_numbers rfl rfl rfl (by decide +kernel) ⟨Nat.le_of_ble_eq_true rfl, Nat.le_of_ble_eq_true rfl⟩) (z_preV hK hP [0, 3, 4, 5, 6] rfl 3 0 rfl rfl) rfl rfl hl.1 rfl (lv_room (Nat.le_of_ble_eq_true rfl)) dX3_line_140 ⟨by show _ ≤ 4; omega, by show _ ≤ 7776; omega⟩)) (fun r_9 hr_9 => ?_)
          replace hr_9 := hr_9.symm
          subst hr_9
          have hnl : nmF (n + 1) fa8 wm ≤ n + 1 := cntF_le _ _
          refine W.widen (k := 4) (n := 7776) (by omega) (by omega) ?_
          exact W.iret (v := nI (nmF (n + 1) fa8 wm)) hx hb hr (fun t ht hW => ⟨⟨nI (nmF (n + 1) fa8 wm), (wd, wc, f1, wm + 1, a8, b8, v8, cap8, n + 1, fa8, fb8, fv8), rfl, ⟨⟨hca, hcb, by omega⟩, by omega, by omega, by omega, Or.inr ⟨by omega, wm, Or.inr ⟨hwn, rfl, rfl⟩, h2, vW_eq.mpr (fun k hk => h3 k (by omega)), had, rfl, rfl⟩⟩, by rw [ht]; exact (hP.sub [0, 1, 2, 3, 4, 5, 6] rfl), va_K.moved hW.alike hK, (hD.sub [0, 1, 2, 3, 4, 5, 6] (by decide) rfl)⟩, hS.F ht⟩) hS.2.2 dX3_line_143
        · refine lv_aload_n hx hb dX3_line_100 rfl (lv_at hl 0 rfl) ?_
          refine va_get (D := D) (ci := 3) (v := .ref wd) (C := RX3) (T := TX3) (N := 10) hx hb hts lk1 hown hK hP 0 rfl rfl 6 (by decide) lk4 (fun _ h9 => h9) rfl dX3_line_101 ?_
          refine lv_bipush (v := nI 12) hx hb dX3_line_104 (by decide) ?_
          refine lv_iload_n hx hb dX3_line_106 rfl (lv_at hl 2 rfl) ?_
          refine z_imul hx hb dX3_line_107 ?_
          refine lv_iload_n hx hb dX3_line_108 rfl (lv_at hl 3 rfl) ?_
          refine z_iadd hx hb dX3_line_109 ?_
          refine lv_aload_n hx hb dX3_line_110 rfl (lv_at hl 0 rfl) ?_
          refine lv_iload_n hx hb dX3_line_111 rfl (lv_at hl 3 rfl) ?_
          refine vp_callSi (va_Run.run (va_runV (As := [.int (nI k)]) (rest := [.int (nI (12 * wm + k)), .ref wd]) ⟨hx, hb, hml, hown, hts⟩ (c_X3_tapeSign l D cI cJ y r0 r1 r2 r3 r4 r5 wd tp (wm + 1) tm ft (by omega) k (by omega)) (cwV 1 hts gX3_line_X3_tapeSign rfl rfl rfl (by decide +kernel) ⟨Nat.le_of_ble_eq_true rfl, Nat.le_of_ble_eq_true rfl⟩) (z_preV hK hP [0, 2] rfl 3 0 rfl rfl) rfl rfl hl.1 rfl (lv_room (Nat.le_of_ble_eq_true rfl)) dX3_line_112 ⟨by show _ ≤ 4; omega, by show _ ≤ 7776; omega⟩)) (fun r_10 hr_10 => ?_)
          replace hr_10 := hr_10.symm
          subst hr_10
          refine z_iast hx hb hK hP hD hS 1 rfl (j := 12 * wm + k) (by omega) (by omega) dX3_line_115 (fun H locs hP hD hS => ?_)
          have hP : va_P D vwCl [(y, .inr (3, [.ref r0, .ref r1, .ref r2, .ref r3, .ref r4, .ref r5, .ref wd, .ref tp, .int (nI (wm + 1)), .int (nI tm)])), (wd, .inl (cI, wc, .inl (upd f1 (12 * wm + k) (tS tm ft k)))), (tp, .inl (cI, 12, .inl ft)), (r5, .inr (2, [.ref a0, .ref b0, .ref v0, .int (nI n)])), (a0, .inl (cI, cap, .inl fa)), (b0, .inl (cI, cap, .inl fb)), (v0, .inl (cJ, cap, .inr (.inl fv)))] H := hP
          have hD : va_D A [(y, .inr (3, [.ref r0, .ref r1, .ref r2, .ref r3, .ref r4, .ref r5, .ref wd, .ref tp, .int (nI (wm + 1)), .int (nI tm)])), (wd, .inl (cI, wc, .inl (upd f1 (12 * wm + k) (tS tm ft k)))), (tp, .inl (cI, 12, .inl ft)), (r5, .inr (2, [.ref a0, .ref b0, .ref v0, .int (nI n)])), (a0, .inl (cI, cap, .inl fa)), (b0, .inl (cI, cap, .inl fb)), (v0, .inl (cJ, cap, .inr (.inl fv)))] := hD
          refine lv_iinc (v := nI (k + 1)) (lv' := [(3, .int (nI (k + 1))), (0, .ref y), (1, .int z), (2, .int (nI wm))]) hx hb dX3_line_116 hl (k := 3) rfl (nI_add k 1) (by decide) rfl (fun ls hl => ?_)
          refine lv_goto (tgt := 94) hx hb dX3_line_119 (by decide) ?_
          exact ih ((k + 1, upd f1 (12 * wm + k) (tS tm ft k))) _ _ _ ⟨hP, hD, hS, lv_sub hl [1, 2, 3, 0] rfl, by omega, fun j hj => (upd_lo (by omega)).trans (h2 j hj), lt_s1 (fun j hj => (upd_lo (by omega)).trans (h3 j hj)) pk_us⟩ (by first | omega | (dsimp only; omega))
      · refine lv_iconst (v := nI 2) hx hb dX3_line_35 (by decide) ?_
        refine lv_aload_n hx hb dX3_line_36 rfl (lv_at hl 1 rfl) ?_
        refine va_get (D := D) (ci := 3) (v := .ref wd) (C := RX3) (T := TX3) (N := 10) hx hb hts lk1 hown hK hP 0 rfl rfl 6 (by decide) lk4 (fun _ h9 => h9) rfl dX3_line_37 ?_
        refine va_alen (v := nI wc) hx hb hK hP 1 0 rfl rfl rfl dX3_line_40 ?_
        refine z_imul hx hb dX3_line_41 ?_
        refine z_newI (N := 2 * wc) hx hb lk5 hK hP hD hS hA (by omega) (by show _ ≤ 4; omega) (by show _ ≤ 7776; omega) dX3_line_42 (fun q_11 H hP hD hS => ?_)
        have hP : va_P D vwCl [(y, .inr (3, [.ref r0, .ref r1, .ref r2, .ref r3, .ref r4, .ref r5, .ref wd, .ref tp, .int (nI wm), .int (nI tm)])), (wd, .inl (cI, wc, .inl fw)), (tp, .inl (cI, 12, .inl ft)), (r5, .inr (2, [.ref a0, .ref b0, .ref v0, .int (nI n)])), (a0, .inl (cI, cap, .inl fa)), (b0, .inl (cI, cap, .inl fb)), (v0, .inl (cJ, cap, .inr (.inl fv))), (q_11, .inl (cI, (2 * wc), .inl (fun _ => 0)))] H := hP
        have hD : va_D A [(y, .inr (3, [.ref r0, .ref r1, .ref r2, .ref r3, .ref r4, .ref r5, .ref wd, .ref tp, .int (nI wm), .int (nI tm)])), (wd, .inl (cI, wc, .inl fw)), (tp, .inl (cI, 12, .inl ft)), (r5, .inr (2, [.ref a0, .ref b0, .ref v0, .int (nI n)])), (a0, .inl (cI, cap, .inl fa)), (b0, .inl (cI, cap, .inl fb)), (v0, .inl (cJ, cap, .inr (.inl fv))), (q_11, .inl (cI, (2 * wc), .inl (fun _ => 0)))] := hD
        refine lv_astore_n (lv' := [(3, .ref q_11), (2, .int (-1)), (0, .ref y), (1, .int z)]) hx hb dX3_line_44 rfl hl (by decide) rfl (fun ls hl => ?_)
        refine lv_iconst (v := nI 0) hx hb dX3_line_45 (by decide) ?_
        refine lv_istore (lv' := [(4, .int (nI 0)), (3, .ref q_11), (2, .int (-1)), (0, .ref y), (1, .int z)]) hx hb dX3_line_46 hl (by decide) rfl (fun ls hl => ?_)
        refine z_loopw (σ := Nat × (Nat → Int32)) (fun (i, c1) => wc - i) (fun (i, c1) H locs ls => va_P D vwCl [(y, .inr (3, [.ref r0, .ref r1, .ref r2, .ref r3, .ref r4, .ref r5, .ref wd, .ref tp, .int (nI wm), .int (nI tm)])), (wd, .inl (cI, wc, .inl fw)), (tp, .inl (cI, 12, .inl ft)), (r5, .inr (2, [.ref a0, .ref b0, .ref v0, .int (nI n)])), (a0, .inl (cI, cap, .inl fa)), (b0, .inl (cI, cap, .inl fb)), (v0, .inl (cJ, cap, .inr (.inl fv))), (q_11, .inl (cI, (2 * wc), .inl c1))] H ∧ va_D A [(y, .inr (3, [.ref r0, .ref r1, .ref r2, .ref r3, .ref r4, .ref r5, .ref wd, .ref tp, .int (nI wm), .int (nI tm)])), (wd, .inl (cI, wc, .inl fw)), (tp, .inl (cI, 12, .inl ft)), (r5, .inr (2, [.ref a0, .ref b0, .ref v0, .int (nI n)])), (a0, .inl (cI, cap, .inl fa)), (b0, .inl (cI, cap, .inl fb)), (v0, .inl (cJ, cap, .inr (.inl fv))), (q_11, .inl (cI, (2 * wc), .inl c1))] ∧ va_S A s.heap H locs ∧ lv_has ls 5 [(0, .ref y), (1, .int z), (3, .ref q_11), (4, .int (nI i))] ∧ (i ≤ wc) ∧ (∀ j, j < i → c1 j = fw j)) ?_ ((0, (fun _ => 0))) _ _ _ ⟨hP, hD, hS, lv_sub hl [3, 4, 1, 0] rfl, Nat.zero_le _, fun j h => absurd h (Nat.not_lt_zero j)⟩
        rintro ⟨i, c1⟩ H locs ls ⟨hP, hD, hS, hl, hi, h1⟩ ih
        have hP : va_P D vwCl [(y, .inr (3, [.ref r0, .ref r1, .ref r2, .ref r3, .ref r4, .ref r5, .ref wd, .ref tp, .int (nI wm), .int (nI tm)])), (wd, .inl (cI, wc, .inl fw)), (tp, .inl (cI, 12, .inl ft)), (r5, .inr (2, [.ref a0, .ref b0, .ref v0, .int (nI n)])), (a0, .inl (cI, cap, .inl fa)), (b0, .inl (cI, cap, .inl fb)), (v0, .inl (cJ, cap, .inr (.inl fv))), (q_11, .inl (cI, (2 * wc), .inl c1))] H := hP
        have hl : lv_has ls 5 [(0, .ref y), (1, .int z), (3, .ref q_11), (4, .int (nI i))] := hl
        refine lv_iload hx hb dX3_line_48 (lv_at hl 3 rfl) ?_
        refine lv_aload_n hx hb dX3_line_50 rfl (lv_at hl 0 rfl) ?_
        refine va_get (D := D) (ci := 3) (v := .ref wd) (C := RX3) (T := TX3) (N := 10) hx hb hts lk1 hown hK hP 0 rfl rfl 6 (by decide) lk4 (fun _ h9 => h9) rfl dX3_line_51 ?_
        refine va_alen (v := nI wc) hx hb hK hP 1 0 rfl rfl rfl dX3_line_54 ?_
        refine z_icmp_ge (tgt := 75) hx hb dX3_line_55 (by decide) (by omega) (by omega) (fun c_55 => ?_) (fun c_55 => ?_)
        · refine lv_aload_n hx hb dX3_line_75 rfl (lv_at hl 0 rfl) ?_
          refine lv_aload_n hx hb dX3_line_76 rfl (lv_at hl 2 rfl) ?_
          refine va_put (D := D) (ci := 3) (v := .ref q_11) (ty := .array .int) (C := RX3) (T := TX3) (N := 10) hx hb hts lk1 tyX3 tyX3_ok nmX3 hown hK hP hD hS 0 rfl rfl 6 (by decide) lk4 (fun _ h9 => h9) rfl (by decide +kernel) rfl rfl (Nat.le_of_ble_eq_true rfl) dX3_line_77 (fun H locs hP hD hS => ?_)
          have hP : va_P D vwCl [(y, .inr (3, [.ref r0, .ref r1, .ref r2, .ref r3, .ref r4, .ref r5, .ref q_11, .ref tp, .int (nI wm), .int (nI tm)])), (wd, .inl (cI, wc, .inl fw)), (tp, .inl (cI, 12, .inl ft)), (r5, .inr (2, [.ref a0, .ref b0, .ref v0, .int (nI n)])), (a0, .inl (cI, cap, .inl fa)), (b0, .inl (cI, cap, .inl fb)), (v0, .inl (cJ, cap, .inr (.inl fv))), (q_11, .inl (cI, (2 * wc), .inl c1))] H := hP
          have hD : va_D A [(y, .inr (3, [.ref r0, .ref r1, .ref r2, .ref r3, .ref r4, .ref r5, .ref q_11, .ref tp, .int (nI wm), .int (nI tm)])), (wd, .inl (cI, wc, .inl fw)), (tp, .inl (cI, 12, .inl ft)), (r5, .inr (2, [.ref a0, .ref b0, .ref v0, .int (nI n)])), (a0, .inl (cI, cap, .inl fa)), (b0, .inl (cI, cap, .inl fb)), (v0, .inl (cJ, cap, .inr (.inl fv))), (q_11, .inl (cI, (2 * wc), .inl c1))] := hD
          refine lv_aload_n hx hb dX3_line_80 rfl (lv_at hl 0 rfl) ?_
          refine lv_dup hx hb dX3_line_81 rfl ?_
          refine va_get (D := D) (ci := 3) (v := .int (nI wm)) (C := RX3) (T := TX3) (N := 10) hx hb hts lk1 hown hK hP 0 rfl rfl 8 (by decide) lk3 (fun _ h9 => h9) rfl dX3_line_82 ?_
          refine lv_dup_x1 hx hb dX3_line_85 rfl rfl ?_
          refine lv_iconst (v := nI 1) hx hb dX3_line_86 (by decide) ?_
          refine z_iadd hx hb dX3_line_87 ?_
          refine va_put (D := D) (ci := 3) (v := .int (nI (wm + 1))) (ty := .int) (C := RX3) (T := TX3) (N := 10) hx hb hts lk1 tyX3 tyX3_ok nmX3 hown hK hP hD hS 0 rfl rfl 8 (by decide) lk3 (fun _ h9 => h9) rfl (by decide +kernel) rfl rfl (Nat.le_of_ble_eq_true rfl) dX3_line_88 (fun H locs hP hD hS => ?_)
          have hP : va_P D vwCl [(y, .inr (3, [.ref r0, .ref r1, .ref r2, .ref r3, .ref r4, .ref r5, .ref q_11, .ref tp, .int (nI (wm + 1)), .int (nI tm)])), (wd, .inl (cI, wc, .inl fw)), (tp, .inl (cI, 12, .inl ft)), (r5, .inr (2, [.ref a0, .ref b0, .ref v0, .int (nI n)])), (a0, .inl (cI, cap, .inl fa)), (b0, .inl (cI, cap, .inl fb)), (v0, .inl (cJ, cap, .inr (.inl fv))), (q_11, .inl (cI, (2 * wc), .inl c1))] H := hP
          have hD : va_D A [(y, .inr (3, [.ref r0, .ref r1, .ref r2, .ref r3, .ref r4, .ref r5, .ref q_11, .ref tp, .int (nI (wm + 1)), .int (nI tm)])), (wd, .inl (cI, wc, .inl fw)), (tp, .inl (cI, 12, .inl ft)), (r5, .inr (2, [.ref a0, .ref b0, .ref v0, .int (nI n)])), (a0, .inl (cI, cap, .inl fa)), (b0, .inl (cI, cap, .inl fb)), (v0, .inl (cJ, cap, .inr (.inl fv))), (q_11, .inl (cI, (2 * wc), .inl c1))] := hD
          refine lv_istore_n (lv' := [(2, .int (nI wm)), (0, .ref y), (1, .int z), (3, .ref q_11), (4, .int (nI i))]) hx hb dX3_line_91 rfl hl (by decide) rfl (fun ls hl => ?_)
          refine lv_iconst (v := nI 0) hx hb dX3_line_92 (by decide) ?_
          refine lv_istore_n (lv' := [(3, .int (nI 0)), (2, .int (nI wm)), (0, .ref y), (1, .int z), (4, .int (nI i))]) hx hb dX3_line_93 rfl hl (by decide) rfl (fun ls hl => ?_)
          refine z_loopw (σ := Nat × (Nat → Int32)) (fun (k, f1) => 12 - k) (fun (k, f1) H locs ls => va_P D vwCl [(y, .inr (3, [.ref r0, .ref r1, .ref r2, .ref r3, .ref r4, .ref r5, .ref q_11, .ref tp, .int (nI (wm + 1)), .int (nI tm)])), (wd, .inl (cI, wc, .inl fw)), (tp, .inl (cI, 12, .inl ft)), (r5, .inr (2, [.ref a0, .ref b0, .ref v0, .int (nI n)])), (a0, .inl (cI, cap, .inl fa)), (b0, .inl (cI, cap, .inl fb)), (v0, .inl (cJ, cap, .inr (.inl fv))), (q_11, .inl (cI, (2 * wc), .inl f1))] H ∧ va_D A [(y, .inr (3, [.ref r0, .ref r1, .ref r2, .ref r3, .ref r4, .ref r5, .ref q_11, .ref tp, .int (nI (wm + 1)), .int (nI tm)])), (wd, .inl (cI, wc, .inl fw)), (tp, .inl (cI, 12, .inl ft)), (r5, .inr (2, [.ref a0, .ref b0, .ref v0, .int (nI n)])), (a0, .inl (cI, cap, .inl fa)), (b0, .inl (cI, cap, .inl fb)), (v0, .inl (cJ, cap, .inr (.inl fv))), (q_11, .inl (cI, (2 * wc), .inl f1))] ∧ va_S A s.heap H locs ∧ lv_has ls 5 [(0, .ref y), (1, .int z), (2, .int (nI wm)), (3, .int (nI k))] ∧ (k ≤ 12) ∧ (∀ j, j < 12 * wm → f1 j = fw j) ∧ (∀ j, j < k → wF f1 wm j = tS tm ft j)) ?_ ((0, c1)) _ _ _ ⟨hP, hD, hS, lv_sub hl [2, 3, 1, 0] rfl, by decide, fun j hj => h1 j (by omega), fun j h => absurd h (Nat.not_lt_zero j)⟩
          rintro ⟨k, f1⟩ H locs ls ⟨hP, hD, hS, hl, hk, h2, h3⟩ ih
          have hP : va_P D vwCl [(y, .inr (3, [.ref r0, .ref r1, .ref r2, .ref r3, .ref r4, .ref r5, .ref q_11, .ref tp, .int (nI (wm + 1)), .int (nI tm)])), (wd, .inl (cI, wc, .inl fw)), (tp, .inl (cI, 12, .inl ft)), (r5, .inr (2, [.ref a0, .ref b0, .ref v0, .int (nI n)])), (a0, .inl (cI, cap, .inl fa)), (b0, .inl (cI, cap, .inl fb)), (v0, .inl (cJ, cap, .inr (.inl fv))), (q_11, .inl (cI, (2 * wc), .inl f1))] H := hP
          have hl : lv_has ls 5 [(0, .ref y), (1, .int z), (2, .int (nI wm)), (3, .int (nI k))] := hl
          refine lv_iload_n hx hb dX3_line_94 rfl (lv_at hl 3 rfl) ?_
          refine lv_bipush (v := nI 12) hx hb dX3_line_95 (by decide) ?_
          refine z_icmp_ge (tgt := 122) hx hb dX3_line_97 (by decide) (by omega) (by omega) (fun c_97 => ?_) (fun c_97 => ?_)
          · refine lv_aload_n hx hb dX3_line_122 rfl (lv_at hl 0 rfl) ?_
            refine va_get (D := D) (ci := 3) (v := .ref r5) (C := RX3) (T := TX3) (N := 10) hx hb hts lk1 hown hK hP 0 rfl rfl 5 (by decide) lk2 (fun _ h9 => h9) rfl dX3_line_123 ?_
            refine lv_iload_n hx hb dX3_line_126 rfl (lv_at hl 2 rfl) ?_
            refine lv_iconst (v := nI 0) hx hb dX3_line_127 (by decide) ?_
            refine lv_iload_n hx hb dX3_line_128 rfl (lv_at hl 1 rfl) ?_
            refine lv_i2l (v := z.toInt64) hx hb dX3_line_129 rfl ?_
            have hFc := va_free (wc := [(r5, .inr (2, [.ref a0, .ref b0, .ref v0, .int (nI n)])), (a0, .inl (cI, cap, .inl fa)), (b0, .inl (cI, cap, .inl fb)), (v0, .inl (cJ, cap, .inr (.inl fv)))]) hD hS hA [3, 4, 5, 6] rfl
            refine va_callv (va_runV (As := [.int (nI wm), .int (nI 0), .long z.toInt64]) (rest := []) ⟨hx, hb, hml, hown, hts⟩ (c_X2_add l D cI cJ r5 a0 b0 v0 cap n fa fb fv (nI wm) (nI 0) z.toInt64  (by omega) (by omega) (by omega) 3 6600 (fun _ => ⟨by omega, by omega⟩) H.size) (cwV 3 hts gX3_line_X2_add rfl rfl rfl (by decide +kernel) ⟨Nat.le_of_ble_eq_true rfl, Nat.le_of_ble_eq_true rfl⟩) (z_preVw hK hP hD [3, 4, 5, 6] (by decide) rfl rfl 2 3 rfl rfl) rfl rfl hl.1 rfl (lv_room (Nat.le_of_ble_eq_true rfl)) dX3_line_130 ⟨by show _ ≤ 4; omega, by show _ ≤ 7776; omega⟩) hS (fun q _ h => hFc q h) hFc (fun u_13 t H1 locs ht hvm hr_12 hB hzz1 hkk1 hS => ?_)
            obtain ⟨a14, b14, v14, cap14, fa14, fb14, fv14⟩ := u_13
            obtain ⟨hP1, hK1, hD1⟩ := hB
            rw [ht] at hP1
            try dsimp only at hr_12
            obtain ⟨hP, hD⟩ := va_join (wr := [(y, .inr (3, [.ref r0, .ref r1, .ref r2, .ref r3, .ref r4, .ref r5, .ref q_11, .ref tp, .int (nI (wm + 1)), .int (nI tm)])), (wd, .inl (cI, wc, .inl fw)), (tp, .inl (cI, 12, .inl ft)), (q_11, .inl (cI, (2 * wc), .inl f1))]) (w1 := [(r5, .inr (2, [.ref a14, .ref b14, .ref v14, .int (nI (n + 1))])), (a14, .inl (cI, cap14, .inl fa14)), (b14, .inl (cI, cap14, .inl fb14)), (v14, .inl (cJ, cap14, .inr (.inl fv14)))]) hP hD [3, 4, 5, 6] [0, 1, 2, 7] rfl rfl (by decide) (by decide) hkk1 hFc hP1 hD1
            generalize H1 = H at hP hS ⊢
            have hP : va_P D vwCl [(y, .inr (3, [.ref r0, .ref r1, .ref r2, .ref r3, .ref r4, .ref r5, .ref q_11, .ref tp, .int (nI (wm + 1)), .int (nI tm)])), (wd, .inl (cI, wc, .inl fw)), (tp, .inl (cI, 12, .inl ft)), (r5, .inr (2, [.ref a14, .ref b14, .ref v14, .int (nI (n + 1))])), (a14, .inl (cI, cap14, .inl fa14)), (b14, .inl (cI, cap14, .inl fb14)), (v14, .inl (cJ, cap14, .inr (.inl fv14))), (q_11, .inl (cI, (2 * wc), .inl f1))] H := hP.sub [0, 1, 2, 4, 5, 6, 7, 3] rfl
            have hD : va_D A [(y, .inr (3, [.ref r0, .ref r1, .ref r2, .ref r3, .ref r4, .ref r5, .ref q_11, .ref tp, .int (nI (wm + 1)), .int (nI tm)])), (wd, .inl (cI, wc, .inl fw)), (tp, .inl (cI, 12, .inl ft)), (r5, .inr (2, [.ref a14, .ref b14, .ref v14, .int (nI (n + 1))])), (a14, .inl (cI, cap14, .inl fa14)), (b14, .inl (cI, cap14, .inl fb14)), (v14, .inl (cJ, cap14, .inr (.inl fv14))), (q_11, .inl (cI, (2 * wc), .inl f1))] := hD.sub [0, 1, 2, 4, 5, 6, 7, 3] (by decide) rfl
            obtain ⟨had, hca, hcb, hcc, hcd⟩ := hr_12
            refine lv_aload_n hx hb dX3_line_133 rfl (lv_at hl 0 rfl) ?_
            refine lv_iconst (v := nI 0) hx hb dX3_line_134 (by decide) ?_
            refine va_put (D := D) (ci := 3) (v := .int (nI 0)) (ty := .int) (C := RX3) (T := TX3) (N := 10) hx hb hts lk1 tyX3 tyX3_ok nmX3 hown hK hP hD hS 0 rfl rfl 9 (by decide) lk0 (fun _ h9 => h9) rfl (by decide +kernel) rfl rfl (Nat.le_of_ble_eq_true rfl) dX3_line_135 (fun H locs hP hD hS => ?_)
            have hP : va_P D vwCl [(y, .inr (3, [.ref r0, .ref r1, .ref r2, .ref r3, .ref r4, .ref r5, .ref q_11, .ref tp, .int (nI (wm + 1)), .int (nI 0)])), (wd, .inl (cI, wc, .inl fw)), (tp, .inl (cI, 12, .inl ft)), (r5, .inr (2, [.ref a14, .ref b14, .ref v14, .int (nI (n + 1))])), (a14, .inl (cI, cap14, .inl fa14)), (b14, .inl (cI, cap14, .inl fb14)), (v14, .inl (cJ, cap14, .inr (.inl fv14))), (q_11, .inl (cI, (2 * wc), .inl f1))] H := hP
            have hD : va_D A [(y, .inr (3, [.ref r0, .ref r1, .ref r2, .ref r3, .ref r4, .ref r5, .ref q_11, .ref tp, .int (nI (wm + 1)), .int (nI 0)])), (wd, .inl (cI, wc, .inl fw)), (tp, .inl (cI, 12, .inl ft)), (r5, .inr (2, [.ref a14, .ref b14, .ref v14, .int (nI (n + 1))])), (a14, .inl (cI, cap14, .inl fa14)), (b14, .inl (cI, cap14, .inl fb14)), (v14, .inl (cJ, cap14, .inr (.inl fv14))), (q_11, .inl (cI, (2 * wc), .inl f1))] := hD
            refine lv_aload_n hx hb dX3_line_138 rfl (lv_at hl 0 rfl) ?_
            refine lv_iload_n hx hb dX3_line_139 rfl (lv_at hl 2 rfl) ?_
            refine vp_callSi (va_Run.run (va_runV (As := [.int (nI wm)]) (rest := []) ⟨hx, hb, hml, hown, hts⟩ (c_X3_numbers l D cI cJ y r0 r1 r2 r3 r4 r5 q_11 tp (wm + 1) 0 a14 b14 v14 cap14 (n + 1) fa14 fb14 fv14  (by omega) (by omega) (by omega) wm (by omega)) (cwV 1 hts gX3_line_X3_numbers rfl rfl rfl (by decide +kernel) ⟨Nat.le_of_ble_eq_true rfl, Nat.le_of_ble_eq_true rfl⟩) (z_preV hK hP [0, 3, 4, 5, 6] rfl 3 0 rfl rfl) rfl rfl hl.1 rfl (lv_room (Nat.le_of_ble_eq_true rfl)) dX3_line_140 ⟨by show _ ≤ 4; omega, by show _ ≤ 7776; omega⟩)) (fun r_15 hr_15 => ?_)
            replace hr_15 := hr_15.symm
            subst hr_15
            have hnl : nmF (n + 1) fa14 wm ≤ n + 1 := cntF_le _ _
            refine W.widen (k := 4) (n := 7776) (by omega) (by omega) ?_
            exact W.iret (v := nI (nmF (n + 1) fa14 wm)) hx hb hr (fun t ht hW => ⟨⟨nI (nmF (n + 1) fa14 wm), (q_11, (2 * wc), f1, wm + 1, a14, b14, v14, cap14, n + 1, fa14, fb14, fv14), rfl, ⟨⟨hca, hcb, by omega⟩, by omega, by omega, by omega, Or.inr ⟨by omega, wm, Or.inr ⟨hwn, rfl, rfl⟩, h2, vW_eq.mpr (fun k hk => h3 k (by omega)), had, rfl, rfl⟩⟩, by rw [ht]; exact (hP.sub [0, 7, 2, 3, 4, 5, 6] rfl), va_K.moved hW.alike hK, (hD.sub [0, 7, 2, 3, 4, 5, 6] (by decide) rfl)⟩, hS.F ht⟩) hS.2.2 dX3_line_143
          · refine lv_aload_n hx hb dX3_line_100 rfl (lv_at hl 0 rfl) ?_
            refine va_get (D := D) (ci := 3) (v := .ref q_11) (C := RX3) (T := TX3) (N := 10) hx hb hts lk1 hown hK hP 0 rfl rfl 6 (by decide) lk4 (fun _ h9 => h9) rfl dX3_line_101 ?_
            refine lv_bipush (v := nI 12) hx hb dX3_line_104 (by decide) ?_
            refine lv_iload_n hx hb dX3_line_106 rfl (lv_at hl 2 rfl) ?_
            refine z_imul hx hb dX3_line_107 ?_
            refine lv_iload_n hx hb dX3_line_108 rfl (lv_at hl 3 rfl) ?_
            refine z_iadd hx hb dX3_line_109 ?_
            refine lv_aload_n hx hb dX3_line_110 rfl (lv_at hl 0 rfl) ?_
            refine lv_iload_n hx hb dX3_line_111 rfl (lv_at hl 3 rfl) ?_
            refine vp_callSi (va_Run.run (va_runV (As := [.int (nI k)]) (rest := [.int (nI (12 * wm + k)), .ref q_11]) ⟨hx, hb, hml, hown, hts⟩ (c_X3_tapeSign l D cI cJ y r0 r1 r2 r3 r4 r5 q_11 tp (wm + 1) tm ft (by omega) k (by omega)) (cwV 1 hts gX3_line_X3_tapeSign rfl rfl rfl (by decide +kernel) ⟨Nat.le_of_ble_eq_true rfl, Nat.le_of_ble_eq_true rfl⟩) (z_preV hK hP [0, 2] rfl 3 0 rfl rfl) rfl rfl hl.1 rfl (lv_room (Nat.le_of_ble_eq_true rfl)) dX3_line_112 ⟨by show _ ≤ 4; omega, by show _ ≤ 7776; omega⟩)) (fun r_16 hr_16 => ?_)
            replace hr_16 := hr_16.symm
            subst hr_16
            refine z_iast hx hb hK hP hD hS 7 rfl (j := 12 * wm + k) (by omega) (by omega) dX3_line_115 (fun H locs hP hD hS => ?_)
            have hP : va_P D vwCl [(y, .inr (3, [.ref r0, .ref r1, .ref r2, .ref r3, .ref r4, .ref r5, .ref q_11, .ref tp, .int (nI (wm + 1)), .int (nI tm)])), (wd, .inl (cI, wc, .inl fw)), (tp, .inl (cI, 12, .inl ft)), (r5, .inr (2, [.ref a0, .ref b0, .ref v0, .int (nI n)])), (a0, .inl (cI, cap, .inl fa)), (b0, .inl (cI, cap, .inl fb)), (v0, .inl (cJ, cap, .inr (.inl fv))), (q_11, .inl (cI, (2 * wc), .inl (upd f1 (12 * wm + k) (tS tm ft k))))] H := hP
            have hD : va_D A [(y, .inr (3, [.ref r0, .ref r1, .ref r2, .ref r3, .ref r4, .ref r5, .ref q_11, .ref tp, .int (nI (wm + 1)), .int (nI tm)])), (wd, .inl (cI, wc, .inl fw)), (tp, .inl (cI, 12, .inl ft)), (r5, .inr (2, [.ref a0, .ref b0, .ref v0, .int (nI n)])), (a0, .inl (cI, cap, .inl fa)), (b0, .inl (cI, cap, .inl fb)), (v0, .inl (cJ, cap, .inr (.inl fv))), (q_11, .inl (cI, (2 * wc), .inl (upd f1 (12 * wm + k) (tS tm ft k))))] := hD
            refine lv_iinc (v := nI (k + 1)) (lv' := [(3, .int (nI (k + 1))), (0, .ref y), (1, .int z), (2, .int (nI wm))]) hx hb dX3_line_116 hl (k := 3) rfl (nI_add k 1) (by decide) rfl (fun ls hl => ?_)
            refine lv_goto (tgt := 94) hx hb dX3_line_119 (by decide) ?_
            exact ih ((k + 1, upd f1 (12 * wm + k) (tS tm ft k))) _ _ _ ⟨hP, hD, hS, lv_sub hl [1, 2, 3, 0] rfl, by omega, fun j hj => (upd_lo (by omega)).trans (h2 j hj), lt_s1 (fun j hj => (upd_lo (by omega)).trans (h3 j hj)) pk_us⟩ (by first | omega | (dsimp only; omega))
        · refine lv_aload_n hx hb dX3_line_58 rfl (lv_at hl 2 rfl) ?_
          refine lv_iload hx hb dX3_line_59 (lv_at hl 3 rfl) ?_
          refine lv_aload_n hx hb dX3_line_61 rfl (lv_at hl 0 rfl) ?_
          refine va_get (D := D) (ci := 3) (v := .ref wd) (C := RX3) (T := TX3) (N := 10) hx hb hts lk1 hown hK hP 0 rfl rfl 6 (by decide) lk4 (fun _ h9 => h9) rfl dX3_line_62 ?_
          refine lv_iload hx hb dX3_line_65 (lv_at hl 3 rfl) ?_
          refine z_iald hx hb hK hP 1 rfl (j := i) (by omega) (by omega) dX3_line_67 ?_
          refine z_iast hx hb hK hP hD hS 7 rfl (j := i) (by omega) (by omega) dX3_line_68 (fun H locs hP hD hS => ?_)
          have hP : va_P D vwCl [(y, .inr (3, [.ref r0, .ref r1, .ref r2, .ref r3, .ref r4, .ref r5, .ref wd, .ref tp, .int (nI wm), .int (nI tm)])), (wd, .inl (cI, wc, .inl fw)), (tp, .inl (cI, 12, .inl ft)), (r5, .inr (2, [.ref a0, .ref b0, .ref v0, .int (nI n)])), (a0, .inl (cI, cap, .inl fa)), (b0, .inl (cI, cap, .inl fb)), (v0, .inl (cJ, cap, .inr (.inl fv))), (q_11, .inl (cI, (2 * wc), .inl (upd c1 i (fw i))))] H := hP
          have hD : va_D A [(y, .inr (3, [.ref r0, .ref r1, .ref r2, .ref r3, .ref r4, .ref r5, .ref wd, .ref tp, .int (nI wm), .int (nI tm)])), (wd, .inl (cI, wc, .inl fw)), (tp, .inl (cI, 12, .inl ft)), (r5, .inr (2, [.ref a0, .ref b0, .ref v0, .int (nI n)])), (a0, .inl (cI, cap, .inl fa)), (b0, .inl (cI, cap, .inl fb)), (v0, .inl (cJ, cap, .inr (.inl fv))), (q_11, .inl (cI, (2 * wc), .inl (upd c1 i (fw i))))] := hD
          refine lv_iinc (v := nI (i + 1)) (lv' := [(4, .int (nI (i + 1))), (0, .ref y), (1, .int z), (3, .ref q_11)]) hx hb dX3_line_69 hl (k := 3) rfl (nI_add i 1) (by decide) rfl (fun ls hl => ?_)
          refine lv_goto (tgt := 48) hx hb dX3_line_72 (by decide) ?_
          exact ih ((i + 1, upd c1 i (fw i))) _ _ _ ⟨hP, hD, hS, lv_sub hl [1, 2, 3, 0] rfl, by omega, lt_s1 (fun j hj => by rw [upd_lo hj]; exact h1 j hj) pk_us⟩ (by first | omega | (dsimp only; omega))
  · rw [c_4] at hP hD
    have hP : va_P D vwCl [(y, .inr (3, [.ref r0, .ref r1, .ref r2, .ref r3, .ref r4, .ref r5, .ref wd, .ref tp, .int (nI wm), .int (nI 0)])), (wd, .inl (cI, wc, .inl fw)), (tp, .inl (cI, 12, .inl ft)), (r5, .inr (2, [.ref a0, .ref b0, .ref v0, .int (nI n)])), (a0, .inl (cI, cap, .inl fa)), (b0, .inl (cI, cap, .inl fb)), (v0, .inl (cJ, cap, .inr (.inl fv)))] s.heap := hP
    have hD : va_D A [(y, .inr (3, [.ref r0, .ref r1, .ref r2, .ref r3, .ref r4, .ref r5, .ref wd, .ref tp, .int (nI wm), .int (nI 0)])), (wd, .inl (cI, wc, .inl fw)), (tp, .inl (cI, 12, .inl ft)), (r5, .inr (2, [.ref a0, .ref b0, .ref v0, .int (nI n)])), (a0, .inl (cI, cap, .inl fa)), (b0, .inl (cI, cap, .inl fb)), (v0, .inl (cJ, cap, .inr (.inl fv)))] := hD
    refine lv_iconst (v := (-1)) hx hb dX3_line_7 (by decide) ?_
    refine W.widen (k := 4) (n := 7776) (by omega) (by omega) ?_
    exact W.iret (v := (-1)) hx hb hr (fun t ht hW => ⟨⟨(-1), (wd, wc, fw, wm, a0, b0, v0, cap, n, fa, fb, fv), rfl, ⟨⟨hn, h16, hc⟩, hwc, hwc0, hwc2, Or.inl ⟨c_4, rfl, rfl, rfl, rfl⟩⟩, by rw [ht]; exact hP, va_K.moved hW.alike hK, hD⟩, hS.F ht⟩) hS.2.2 dX3_line_8
